/** Promises 36 to 38: images, their bytes, and which tapes are one. */
public final class ImageTest {
    private static final String CHIP = "field 4 poly 19 mends 2 short 2;page a;page b;page c;drifts 1;";
    private static final int CELLS = 13;
    private static final Check CHECK = new Check();

    public static void main(String[] args) {
        askEmpty();
        askBytes();
        askOn();
        askNoImages();
        askMost();
        askNoChip();
        CHECK.finish();
    }

    private static int[] summed(int[] bytes) {
        int[] copy = bytes.clone();
        int c = 211;
        for (int i = 0; i + 1 < copy.length; i++) {
            c = (5 * c + copy[i]) % 251;
        }
        if (copy.length > 0) {
            copy[copy.length - 1] = c;
        }
        return copy;
    }

    private static void askEmpty() {
        FlashPages x = new FlashPages();
        CHECK.due("octet ahead of any", x.octet(0), -1);
        CHECK.due("image()", x.image(), 3);
        CHECK.due("octet(0)", x.octet(0), 0);
        CHECK.due("octet(1)", x.octet(1), 0);
        CHECK.due("octet(2)", x.octet(2), (5 * (5 * 211 % 251)) % 251);
        CHECK.due("octet(3)", x.octet(3), -1);
        CHECK.due("octet(-1)", x.octet(-1), -1);
    }

    private static FlashPages some() {
        FlashPages x = Check.made(CHIP);
        for (int i = 0; i < 7; i++) {
            x.days(40);
        }
        x.write(1, 0, 29);
        x.days(3);
        x.flip(1, 2);
        return x;
    }

    private static void askBytes() {
        FlashPages x = some();
        int size = 2 + 1 + 1 + 1 + 8 + CELLS + 1 + 1;
        CHECK.due("image()", x.image(), size);
        CHECK.due("DAY", x.octet(0), 283 / 256);
        CHECK.due("DAY", x.octet(1), 283 % 256);
        CHECK.due("not written", x.octet(2), 0);
        CHECK.due("written", x.octet(3), 1);
        CHECK.due("DAYS", x.octet(4), 3);
        long word = 0;
        for (int k = 0; k < CELLS; k++) {
            word |= (long) x.word(0, 29, k) << k;
            CHECK.due("level of " + k, x.octet(13 + k), x.level(1, k, 0));
        }
        for (int i = 0; i < 8; i++) {
            CHECK.due("WORD byte " + i, x.octet(5 + i), word >> (8 * (7 - i)) & 255);
        }
        CHECK.due("the last page", x.octet(13 + CELLS), 0);
        int[] bytes = Check.octets(x);
        CHECK.due("the sum", bytes[size - 1], summed(bytes)[size - 1]);
        x.write(0, 0, 1);
        CHECK.due("the latest image stays", x.octet(2), 0);
        CHECK.due("image()", x.image(), size + 9 + CELLS);
        CHECK.due("octet(2)", x.octet(2), 1);
    }

    private static boolean on(FlashPages x, int... bytes) {
        Check.feed(x, bytes);
        return x.on();
    }

    private static void askOn() {
        FlashPages x = some();
        int[] bytes = Check.octets(x);
        int level = x.level(1, 2, 0);
        int ahead = x.level(1, 2, 5);
        x.erase(1);
        x.write(0, 0, 2);
        x.days(9);
        x.seed(33);
        CHECK.due("on()", on(x, bytes), true);
        CHECK.due("the tape went", x.end(1), false);
        int[] due = {15, 8, CELLS, 5, 3, 1, 283, 0, 0, 0, 33};
        for (int what = 0; what < due.length; what++) {
            CHECK.due("has(" + what + ")", x.has(what), due[what]);
        }
        CHECK.due("page(1,0)", x.page(1, 0), 1);
        CHECK.due("page(0,0)", x.page(0, 0), 0);
        CHECK.due("page(1,1)", x.page(1, 1), 3);
        CHECK.due("got", x.got(1, 5), 29);
        CHECK.due("mended", x.got(1, 0), 1);
        CHECK.due("level", x.level(1, 2, 0), level);
        CHECK.due("level ahead", x.level(1, 2, 5), ahead);
        CHECK.due("undo()", x.undo(), false);
        CHECK.due("kept", x.kept(0, 0), -1);
        int[] again = Check.octets(x);
        CHECK.due("as long", again.length, bytes.length);
        for (int k = 0; k < bytes.length; k++) {
            CHECK.due("byte " + k, again[k], bytes[k]);
        }
        CHECK.due("status(5)", x.status(5), 0);
    }

    /** The image with one byte another, its sum made good. */
    private static int[] changed(int[] bytes, int at, int value) {
        int[] copy = bytes.clone();
        copy[at] = value;
        return summed(copy);
    }

    private static void askNoImages() {
        FlashPages x = some();
        int[] bytes = Check.octets(x);
        int refused = 0;
        int[][] bad = {
            {}, {0}, {0, 0}, summed(new int[3]), summed(new int[5]), summed(new int[7]),
            java.util.Arrays.copyOf(bytes, bytes.length - 1), java.util.Arrays.copyOf(bytes, bytes.length + 1),
            summed(java.util.Arrays.copyOf(bytes, bytes.length - 1)), summed(java.util.Arrays.copyOf(bytes, bytes.length + 1)),
            summed(java.util.Arrays.copyOf(bytes, 9)), summed(java.util.Arrays.copyOf(bytes, 5)),
            changed(changed(bytes, 0, 3), 1, 232), changed(bytes, 0, 255), changed(bytes, 2, 2), changed(bytes, 2, 1),
            changed(bytes, 3, 255), changed(bytes, 3, 0), changed(bytes, 4, 100), changed(bytes, 13, 100),
            changed(bytes, 12 + CELLS, 100), changed(bytes, 12 + CELLS, 255), changed(bytes, 12, bytes[12] ^ 1),
            changed(bytes, 11, bytes[11] ^ 16), changed(bytes, 11, bytes[11] ^ 32), changed(bytes, 5, 128),
            changed(bytes, 13 + CELLS, 2),
        };
        for (int i = 0; i < bad.length; i++) {
            refused++;
            CHECK.due("bad image " + i, on(x, bad[i]), false);
            CHECK.due("status(5) " + i, x.status(5), refused);
            CHECK.due("the tape went " + i, x.end(1), false);
            CHECK.due("DAY stays " + i, x.has(6), 283);
            CHECK.due("acts stay " + i, x.has(9), 10);
            CHECK.due("kept stays " + i, x.has(7), 1);
            CHECK.due("level stays " + i, x.level(1, 2, 0), bytes[15]);
        }
        for (int i = 0; i < bytes.length; i++) {
            int[] copy = bytes.clone();
            copy[i] ^= 64;
            CHECK.due("a byte without its sum " + i, on(x, copy), false);
        }
        Check.chip(x, CHIP.replace("page c;", ""));
        CHECK.due("of another chip", on(x, bytes), false);
        Check.chip(x, CHIP.replace("short 2", "short 1"));
        CHECK.due("of another code", on(x, bytes), false);
    }

    /** The greatest numbers that may be; days and DAY need not fit each other. */
    private static void askMost() {
        FlashPages x = some();
        int[] bytes = Check.octets(x);
        CHECK.due("DAY 999", on(x, changed(changed(bytes, 0, 3), 1, 231)), true);
        CHECK.due("has(6)", x.has(6), 999);
        CHECK.due("days(1)", x.days(1), -1);
        CHECK.due("99 DAYS", on(x, changed(changed(changed(bytes, 4, 99), 0, 0), 1, 0)), true);
        CHECK.due("has(6)", x.has(6), 0);
        CHECK.due("page(1,1)", x.page(1, 1), 99);
        x.days(1);
        CHECK.due("page(1,1)", x.page(1, 1), 99);
        CHECK.due("level 99", on(x, changed(changed(bytes, 13, 99), 14, 0)), true);
        CHECK.due("level", x.level(1, 0, 0), 99);
        CHECK.due("level", x.level(1, 1, 0), 0);
        FlashPages y = Check.made("field 6 poly 67 mends 1 short 0;page a;page b;page c;page d;page e;page f;");
        for (int page = 0; page < 6; page++) {
            y.write(page, (1 << 27) - 1, (1 << 30) - 1 - page);
        }
        CHECK.due("the longest image", y.image(), 3 + 6 * 73);
        int[] all = Check.octets(y);
        y.erase(3);
        CHECK.due("on()", on(y, all), true);
        CHECK.due("page 3", y.got(3, 5), (1 << 30) - 4);
        CHECK.due("page 3 above", y.got(3, 6), (1 << 27) - 1);
        FlashPages z = Check.made("field 3 poly 11 mends 1 short 0;");
        CHECK.due("without pages", on(z, Check.octets(z)), true);
    }

    private static void askNoChip() {
        FlashPages x = new FlashPages();
        int[] bytes = Check.octets(x);
        CHECK.due("without a chip", on(x, bytes), false);
        CHECK.due("the tape went", x.end(1), false);
        CHECK.due("status(5)", x.status(5), 1);
    }
}
