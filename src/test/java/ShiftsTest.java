/** Promises 24 to 26: rows met, shifts, the telling threshold. */
public final class ShiftsTest {
    private static final String SMALL = "field 3 poly 11 mends 1 short 0;page a;page b;";
    private static final Check CHECK = new Check();

    public static void main(String[] args) {
        askMeet();
        askShifts();
        askTelling();
        askBeyondLevels();
        CHECK.finish();
    }

    private static int meet(FlashPages x, int... bytes) {
        Check.feed(x, bytes);
        return x.meet();
    }

    private static void askMeet() {
        FlashPages x = new FlashPages();
        CHECK.due("without a chip", meet(x, 50, 3), -1);
        CHECK.due("the tape went", x.end(1), false);
        CHECK.due("status(5)", x.status(5), 1);
        x = Check.made(SMALL);
        CHECK.due("none", meet(x), -1);
        CHECK.due("one byte", meet(x, 50), -1);
        CHECK.due("three bytes", meet(x, 50, 3, 50), -1);
        CHECK.due("has(8)", x.has(8), 0);
        CHECK.due("one row", meet(x, 100, 63), 1);
        CHECK.due("has(8)", x.has(8), 1);
        CHECK.due("the tape went", x.end(1), false);
        CHECK.due("threshold 101", meet(x, 101, 0), -1);
        CHECK.due("ones 64", meet(x, 50, 3, 0, 64), -1);
        CHECK.due("a bad tape goes too", x.end(1), false);
        CHECK.due("threshold 255", meet(x, 255, 0), -1);
        CHECK.due("the last good one stays", x.has(8), 1);
        int[] rows = new int[32];
        CHECK.due("16 rows", meet(x, rows), 16);
        CHECK.due("has(8)", x.has(8), 16);
        CHECK.due("17 rows", meet(x, new int[34]), -1);
        CHECK.due("has(8)", x.has(8), 16);
        CHECK.due("status(5)", x.status(5), 7);
    }

    private static void askShifts() {
        FlashPages x = Check.made(SMALL);
        CHECK.due("not written", x.shifts(0, -1), -1000);
        CHECK.due("none such", x.shifts(2, -1), -1000);
        x.write(0, 0, 1);
        CHECK.due("all", x.shifts(0, -1), 19);
        for (int k = 0; k < 19; k++) {
            CHECK.due("shifts(0," + k + ")", x.shifts(0, k), k - 9);
        }
        CHECK.due("shifts(0,19)", x.shifts(0, 19), -1000);
        CHECK.due("shifts(0,-2)", x.shifts(0, -2), -1000);
        // 70 and more by 67: from -3 on; 30 and more below 34: up to 3.
        meet(x, 67, 3, 34, 3);
        CHECK.due("two rows", x.shifts(0, -1), 7);
        CHECK.due("the least", x.shifts(0, 0), -3);
        CHECK.due("the greatest", x.shifts(0, 6), 3);
        CHECK.due("none behind", x.shifts(0, 7), -1000);
        CHECK.due("of the other page", x.shifts(1, -1), -1000);
        x.undo();
        CHECK.due("not written any more", x.shifts(0, -1), -1000);
        CHECK.due("met stays", x.has(8), 2);
        x.write(0, 0, 1);
        CHECK.due("still met", x.shifts(0, -1), 7);
        meet(x, 50, 4);
        CHECK.due("none left", x.shifts(0, -1), 0);
        CHECK.due("the first of none", x.shifts(0, 0), -1000);
        int[] image = Check.octets(x);
        Check.feed(x, image);
        CHECK.due("on()", x.on(), true);
        CHECK.due("met by the same chip", x.shifts(0, -1), 0);
        Check.chip(x, SMALL);
        x.write(0, 0, 1);
        CHECK.due("not by the next chip", x.shifts(0, -1), 19);
    }

    private static void askTelling() {
        FlashPages x = Check.made(SMALL);
        CHECK.due("not written", x.tells(0, 0), -1);
        x.write(0, 0, 1);
        CHECK.due("threshold", x.tells(0, 0), 30);
        CHECK.due("left", x.tells(0, 1), 10);
        CHECK.due("tells(0,2)", x.tells(0, 2), -1);
        CHECK.due("tells(0,-1)", x.tells(0, -1), -1);
        CHECK.due("tells(2,0)", x.tells(2, 0), -1);
        meet(x, 67, 3, 34, 3);
        CHECK.due("of seven", x.tells(0, 0), 30);
        CHECK.due("left of seven", x.tells(0, 1), 4);
        meet(x, 70, 3, 31, 3);
        CHECK.due("of one", x.shifts(0, -1), 1);
        CHECK.due("the first threshold", x.tells(0, 0), 0);
        CHECK.due("left of one", x.tells(0, 1), 1);
        meet(x, 50, 4);
        CHECK.due("of none", x.tells(0, 0), -1);
        CHECK.due("left of none", x.tells(0, 1), -1);
    }

    /** Levels are not held to 0 .. 99 here. */
    private static void askBeyondLevels() {
        FlashPages x = Check.made(SMALL + "high 99;low 0;");
        x.write(0, 0, 1);
        meet(x, 0, 3);
        CHECK.due("below 0", x.shifts(0, -1), 9);
        CHECK.due("the greatest of these", x.shifts(0, 8), -1);
        meet(x, 100, 3);
        CHECK.due("above 99", x.shifts(0, -1), 9);
        CHECK.due("the least of these", x.shifts(0, 0), 1);
        meet(x, 100, 0);
        CHECK.due("up to 99", x.shifts(0, -1), 10);
    }
}
