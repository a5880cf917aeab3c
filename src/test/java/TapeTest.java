/** Promises 1, 2, 3 and 39, and what feed() and end() refuse. */
public final class TapeTest {
    private static final Check CHECK = new Check();

    public static void main(String[] args) {
        askNewObject();
        askFeed();
        askEnd();
        askStatus();
        CHECK.finish();
    }

    private static void askNewObject() {
        FlashPages x = new FlashPages();
        for (int what = 0; what < 10; what++) {
            CHECK.due("new has(" + what + ")", x.has(what), 0);
        }
        CHECK.due("new has(10)", x.has(10), 1);
        CHECK.due("new has(-1)", x.has(-1), -1);
        CHECK.due("new has(11)", x.has(11), -1);
        CHECK.due("new octet(0)", x.octet(0), -1);
        CHECK.due("new generator(0)", x.generator(0), -1);
        CHECK.due("new kept", x.kept(0, 0), -1);
        for (int what = 0; what < 6; what++) {
            CHECK.due("new status(" + what + ")", x.status(what), 0);
        }
        CHECK.due("NONE", FlashPages.NONE, -1);
        CHECK.due("NOTHING", FlashPages.NOTHING, -1000);
    }

    private static void askFeed() {
        FlashPages x = new FlashPages();
        for (int i = 1; i <= 80; i++) {
            CHECK.due("feed " + i, x.feed(0x20202020, 0x20202020, 0x20202020, 0x20202020, 0x20202020), 20 * i);
        }
        CHECK.due("feed beyond 1600", x.feed(1, 2, 3, 4, 5), -1);
        CHECK.due("status(0)", x.status(0), 1);
        CHECK.due("end(1581)", x.end(1581), true);
        CHECK.due("feed to 1601", x.feed(1, 2, 3, 4, 5), -1);
        CHECK.due("end(1580)", x.end(1580), true);
        CHECK.due("feed to 1600", x.feed(0x20202020, 0x20202020, 0x20202020, 0x20202020, 0x20202020), 1600);
        CHECK.due("status(0)", x.status(0), 2);
        CHECK.due("chip() of blanks", x.chip(), -1);
        CHECK.due("its place", x.fault(1), 1600);
        // The bytes' order, the highest being above 127: a sign where none may be.
        x.feed(0x200a20ff, 0, 0, 0, 0);
        x.chip();
        CHECK.due("place of byte 255", x.fault(1), 3);
        x.feed(0x20202020, 0x20202020, 0x20202020, 0x20202020, 0x20200a41);
        x.chip();
        CHECK.due("place of the last byte", x.fault(1), 19);
    }

    private static void askEnd() {
        FlashPages x = new FlashPages();
        CHECK.due("end(0) of nothing", x.end(0), true);
        CHECK.due("end(1) of nothing", x.end(1), false);
        CHECK.due("end(-1)", x.end(-1), false);
        x.feed(0, 0, 0, 0, 0);
        CHECK.due("end(21)", x.end(21), false);
        CHECK.due("end(20)", x.end(20), true);
        CHECK.due("end(7)", x.end(7), true);
        CHECK.due("end(8)", x.end(8), false);
        CHECK.due("feed behind 7", x.feed(0, 0, 0, 0, 0), 27);
        CHECK.due("end(min)", x.end(Integer.MIN_VALUE), false);
        CHECK.due("end(max)", x.end(Integer.MAX_VALUE), false);
        CHECK.due("status(0)", x.status(0), 6);
    }

    private static void askStatus() {
        FlashPages x = new FlashPages();
        x.end(1);
        x.chip();
        x.chip();
        x.days(1);
        x.chance(1);
        x.days(0);
        x.write(0, 0, 0);
        x.erase(0);
        x.flip(0, 0);
        x.refresh(0);
        for (int i = 0; i < 5; i++) {
            x.undo();
        }
        x.seed(-1);
        x.meet();
        x.on();
        x.seed(-2);
        x.meet();
        x.on();
        int[] due = {1, 2, 3, 4, 5, 6};
        for (int what = 0; what < 6; what++) {
            CHECK.due("status(" + what + ")", x.status(what), due[what]);
        }
        CHECK.due("status(-1)", x.status(-1), -1);
        CHECK.due("status(6)", x.status(6), -1);
        // Asking in vain is not refused.
        x.got(0, 0);
        x.letter(9, 9);
        x.octet(-1);
        // A chip counts nothing anew.
        Check.chip(x, "field 3 poly 11 mends 1 short 0;");
        for (int what = 0; what < 6; what++) {
            CHECK.due("status(" + what + ") behind a chip", x.status(what), due[what]);
        }
    }
}
