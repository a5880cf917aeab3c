import java.util.Arrays;

/** The boundary cases of images (Terms III) and of the promises 36 to 38, sentence by sentence. */
public final class BoundsImageTest {
    private static final String CHIP = Bounds.SMALL + "page a;page b;";
    /** Of page a, the other one being not written: DAY, flag, DAYS, WORD, 7 levels, flag, sum. */
    private static final int SIZE = 2 + 1 + 1 + 8 + 7 + 1 + 1;
    private static final Bounds B = new Bounds();

    public static void main(String[] args) {
        askBytes();
        askDayBytes();
        askSum();
        askImageSize();
        askOctet();
        askOn();
        askOnMost();
        askOnRefused();
        askOnWord();
        askOnLength();
        askOnWithout();
        B.finish();
    }

    private static int[] summed(int... ahead) {
        int c = 211;
        for (int octet : ahead) {
            c = (5 * c + octet) % 251;
        }
        int[] all = Arrays.copyOf(ahead, ahead.length + 1);
        all[ahead.length] = c;
        return all;
    }

    /** With one byte another, and the sum as it has to be then. */
    private static int[] with(int[] image, int at, int octet) {
        int[] ahead = Arrays.copyOf(image, image.length - 1);
        ahead[at] = octet;
        return summed(ahead);
    }

    private static boolean on(FlashPages x, int... bytes) {
        Bounds.put(x, bytes);
        return x.on();
    }

    private static FlashPages some() {
        FlashPages x = Check.made(CHIP);
        x.days(40);
        x.write(0, 0, 1);
        x.days(2);
        x.flip(0, 6);
        return x;
    }

    private static void askBytes() {
        B.of(Bounds.TERMS_III, "for each PAGE 1 if it is written, else 0, and, if it is, for how many DAYS, its WORD (8 bytes, the highest first), the levels of its cells");
        FlashPages x = some();
        int[] due = summed(0, 42, 1, 2, 0, 0, 0, 0, 0, 0, 0, 11, 70, 70, 30, 70, 30, 30, 69, 0);
        B.due("image()", x.image(), SIZE);
        for (int k = 0; k < due.length; k++) {
            B.due("octet(" + k + ")", x.octet(k), due[k]);
        }
        x = Check.made("field 6 poly 67 mends 1 short 0;page a;");
        x.write(0, (1 << 27) - 1, (1 << 30) - 1);
        x.image();
        B.due("the highest byte of 63 ones", x.octet(4), 127);
        B.due("the lowest byte of 63 ones", x.octet(11), 255);
    }

    private static void askDayBytes() {
        B.of(Bounds.TERMS_III, "AN IMAGE: DAY (two bytes, the higher first)");
        FlashPages x = Check.made(CHIP);
        for (int day : new int[] {0, 255, 256, 999}) {
            B.due("on() by DAY " + day, on(x, summed(day / 256, day % 256, 0, 0)), true);
            B.due("DAY", x.has(6), day);
            x.image();
            B.due("the higher", x.octet(0), day / 256);
            B.due("the lower", x.octet(1), day % 256);
        }
    }

    private static void askSum() {
        B.of(Bounds.TERMS_III, "last a byte: all ahead from 211 on, c = (5 c + it) mod 251.");
        FlashPages x = new FlashPages();
        x.image();
        // 211, 1055 mod 251 = 51, 255 mod 251 = 4.
        B.due("of 0, 0", x.octet(2), 4);
        for (int sum = 0; sum < 256; sum++) {
            boolean isIt = sum == summed(0, 0, 0, 0)[4];
            B.due("on() by the sum " + sum, on(Check.made(CHIP), 0, 0, 0, 0, sum), isIt);
        }
    }

    private static void askImageSize() {
        B.of(36, "AN IMAGE is written: how many bytes (ahead of a chip 3).");
        B.due("ahead of a chip", new FlashPages().image(), 3);
        B.due("without PAGES", Check.made(Bounds.SMALL).image(), 3);
        String six = "page a;page b;page c;page d;page e;page f;";
        FlashPages x = Check.made("field 6 poly 67 mends 1 short 0;" + six);
        B.due("of six PAGES, none written", x.image(), 9);
        for (int page = 0; page < 6; page++) {
            x.write(page, 1, 1);
            B.due("one more is written", x.image(), 9 + 72 * (page + 1));
        }
        x = Check.made(Bounds.TINY + six);
        x.write(5, 0, 1);
        B.due("of four cells", x.image(), 9 + 13);
        Check.chip(x, "field");
        B.due("a chip with a fault", x.image(), 9 + 13);
    }

    private static void askOctet() {
        B.of(37, "Byte k of the latest image(); NONE when there is none such.");
        FlashPages x = new FlashPages();
        B.due("ahead of any", x.octet(0), -1);
        x.image();
        B.due("the first", x.octet(0), 0);
        B.due("the last", x.octet(2), 4);
        for (int k : new int[] {-1, 3, Integer.MIN_VALUE, Integer.MAX_VALUE}) {
            B.due("octet(" + k + ")", x.octet(k), -1);
        }
        x = some();
        x.image();
        B.due("the last", x.octet(SIZE - 1) >= 0, true);
        B.due("behind it", x.octet(SIZE), -1);
        x.erase(0);
        B.due("the latest image() stays", x.octet(2), 1);
        B.due("a shorter one", x.image(), 5);
        B.due("its last", x.octet(4) >= 0, true);
        B.due("none behind it", x.octet(5), -1);
    }

    private static void askOn() {
        B.of(38, "The tape (it goes) is AN IMAGE of this CHIP: true, all is as it tells, nothing is KEPT, no ACT can be undone");
        FlashPages x = some();
        int[] image = Check.octets(x);
        x.erase(0);
        x.write(1, 0, 7);
        x.days(9);
        x.seed(77);
        B.due("on()", on(x, image), true);
        B.due("the tape went", x.end(1), false);
        int[] due = {7, 3, 7, 4, 2, 1, 42, 0, 0, 0, 77};
        for (int what = 0; what < due.length; what++) {
            B.due("has(" + what + ")", x.has(what), due[what]);
        }
        B.due("its DAYS", x.page(0, 1), 2);
        B.due("page b", x.page(1, 0), 0);
        B.due("nothing is KEPT", x.kept(0, 0), -1);
        B.due("undo()", x.undo(), false);
        B.due("the same image", Arrays.equals(Check.octets(x), image), true);
        // Of an image ahead nothing is left.
        FlashPages y = Check.made(CHIP);
        y.write(1, 0, 7);
        B.due("on() with page b", on(y, Check.octets(y)), true);
        B.due("page b is written", y.page(1, 0), 1);
        B.due("on() without it", on(y, image), true);
        B.due("it is not written", y.page(1, 0), 0);
        B.due("has(5)", y.has(5), 1);
    }

    private static void askOnMost() {
        B.of(38, "(DAY 999, flags 1, DAYS of a PAGE 99, levels 99 at most; a WORD of the code)");
        int[] image = Check.octets(some());
        int[] late = with(with(image, 0, 3), 1, 231);
        B.due("DAY 999", on(Check.made(CHIP), late), true);
        B.due("DAY 1000", on(Check.made(CHIP), with(late, 1, 232)), false);
        B.due("DAY 1024", on(Check.made(CHIP), with(with(image, 0, 4), 1, 0)), false);
        B.due("DAY 65535", on(Check.made(CHIP), with(with(image, 0, 255), 1, 255)), false);
        B.due("DAYS 99", on(Check.made(CHIP), with(image, 3, 99)), true);
        B.due("DAYS 100", on(Check.made(CHIP), with(image, 3, 100)), false);
        B.due("DAYS 255", on(Check.made(CHIP), with(image, 3, 255)), false);
        for (int cell = 0; cell < 7; cell++) {
            B.due("level 0 of " + cell, on(Check.made(CHIP), with(image, 12 + cell, 0)), true);
            B.due("level 99 of " + cell, on(Check.made(CHIP), with(image, 12 + cell, 99)), true);
            B.due("level 100 of " + cell, on(Check.made(CHIP), with(image, 12 + cell, 100)), false);
            B.due("level 255 of " + cell, on(Check.made(CHIP), with(image, 12 + cell, 255)), false);
        }
        B.due("flag 2 of the first", on(Check.made(CHIP), with(image, 2, 2)), false);
        B.due("flag 255 of the first", on(Check.made(CHIP), with(image, 2, 255)), false);
        B.due("flag 1 of the last, without its bytes", on(Check.made(CHIP), with(image, 19, 1)), false);
        B.due("flag 2 of the last", on(Check.made(CHIP), with(image, 19, 2)), false);
    }

    private static void askOnWord() {
        B.of(38, "a WORD of the code)");
        int[] image = Check.octets(some());
        FlashPages words = Check.made(CHIP);
        for (int bits = 0; bits < 256; bits++) {
            boolean isWord = bits < 128;
            for (int k = 0; k < 7 && isWord; k++) {
                isWord = words.word(0, bits >> 3, k) == (bits >> k & 1);
            }
            B.due("WORD " + bits, on(Check.made(CHIP), with(image, 11, bits)), isWord);
        }
        for (int at = 4; at < 11; at++) {
            B.due("a bit that is no cell, byte " + at, on(Check.made(CHIP), with(image, at, 1)), false);
            B.due("the highest bit of byte " + at, on(Check.made(CHIP), with(image, at, 128)), false);
        }
        // A WORD of the whole code, with a cell that the shortened one has not.
        String tiny = Bounds.TINY + "page a;";
        B.due("cells 0, 1, 3", on(Check.made(tiny), summed(0, 0, 1, 0, 0, 0, 0, 0, 0, 0, 0, 11, 1, 2, 3, 4)), true);
        B.due("cells 1, 2, 4", on(Check.made(tiny), summed(0, 0, 1, 0, 0, 0, 0, 0, 0, 0, 0, 22, 1, 2, 3, 4)), false);
        // 63 cells: all of them ones are a WORD, the 64th bit is none.
        FlashPages x = Check.made("field 6 poly 67 mends 1 short 0;page a;");
        x.write(0, (1 << 27) - 1, (1 << 30) - 1);
        int[] all = Check.octets(x);
        B.due("63 ones", on(x, all), true);
        B.due("64 ones", on(x, with(all, 4, 255)), false);
    }

    private static void askOnRefused() {
        B.of(38, "false, refused (5), all staying, if it is none such");
        int[] image = Check.octets(Bounds.scene());
        int[] cut = Arrays.copyOf(image, image.length - 1);
        int[][] tapes = {{}, {4}, {0, 0, 4}, cut, summed(Arrays.copyOf(image, image.length - 2)), summed(image), with(image, 0, 4), with(image, 2, 2), with(image, 3, 100),
            with(image, 11, image[11] ^ 1), with(image, 12, 100), with(image, image.length - 2, 100), new int[1600]};
        for (int i = 0; i < tapes.length; i++) {
            int[] tape = tapes[i];
            B.refused("on() of bad tape " + i, 5, 0, Bounds::scene, x -> Bounds.number(on(x, tape)));
        }
        for (int at = 0; at < image.length; at++) {
            int[] tape = image.clone();
            tape[at] ^= 1;
            B.due("one bit of byte " + at, on(Bounds.scene(), tape), false);
        }
    }

    private static void askOnLength() {
        B.of(38, "if it is none such");
        FlashPages x = some();
        int[] image = Check.octets(x);
        for (int size = 0; size < image.length; size++) {
            B.due("the first " + size + " bytes", on(x, Arrays.copyOf(image, size)), false);
            if (size > 0) {
                B.due("and the sum of these", on(x, summed(Arrays.copyOf(image, size - 1))), false);
            }
        }
        B.due("one byte more", on(x, summed(image)), false);
        B.due("all of it", on(x, image), true);
        FlashPages other = Check.made(Bounds.SMALL + "page a;");
        B.due("of a CHIP with a PAGE less", on(other, image), false);
        other = Check.made(CHIP + "page c;");
        B.due("of a CHIP with a PAGE more", on(other, image), false);
        other = Check.made("field 3 poly 11 mends 1 short 1;page a;page b;");
        B.due("of a CHIP with a cell less", on(other, image), false);
        other = Check.made("field 3 poly 13 mends 1 short 0;page a;page b;");
        B.due("of a CHIP with other WORDS", on(other, image), false);
    }

    private static void askOnWithout() {
        B.of(38, "or without a chip.");
        B.refused("on() without a chip", 5, 0, FlashPages::new, x -> Bounds.number(on(x, summed(0, 0))));
        FlashPages x = Check.made(Bounds.SMALL);
        B.due("on() without PAGES", on(x, summed(0, 7)), true);
        B.due("DAY", x.has(6), 7);
    }
}
