/** The boundary cases of what was met (Terms III) and of the promises 24 to 26, sentence by sentence. */
public final class BoundsShiftsTest {
    private static final String CHIP = Bounds.SMALL + "page a;page b;";
    private static final Bounds B = new Bounds();

    public static void main(String[] args) {
        askRowLimits();
        askShiftLimits();
        askBeyondLevels();
        askTelling();
        askFirstOfLike();
        askTellingLimits();
        askMeet();
        askMeetRefused();
        askLatest();
        askShifts();
        askTells();
        B.finish();
    }

    private static FlashPages written(String text, int data) {
        FlashPages x = Check.made(text);
        x.write(0, 0, data);
        return x;
    }

    private static int meet(FlashPages x, int... bytes) {
        Bounds.put(x, bytes);
        return x.meet();
    }

    private static void askRowLimits() {
        B.of(Bounds.TERMS_III, "MET are rows of a threshold (0 .. 100), how many ones (0 .. 63)");
        int[][] taken = {{0, 0}, {100, 0}, {0, 63}, {100, 63}, {99, 62}};
        for (int[] row : taken) {
            B.due(row[0] + ", " + row[1], meet(Check.made(CHIP), row), 1);
        }
        int[][] others = {{101, 0}, {0, 64}, {101, 64}, {255, 0}, {0, 255}, {128, 1}, {1, 128}};
        for (int[] row : others) {
            B.due(row[0] + ", " + row[1], meet(Check.made(CHIP), row), -1);
            B.due("in the last row", meet(Check.made(CHIP), 50, 3, row[0], row[1]), -1);
            B.due("in the first row", meet(Check.made(CHIP), row[0], row[1], 50, 3), -1);
        }
    }

    private static void askShiftLimits() {
        B.of(Bounds.TERMS_III, "SHIFTS are those numbers -9 .. 9 by which all levels of a told PAGE being more, each READ has as many");
        FlashPages x = written(CHIP, 1);
        // The three ones are 70: by 61 all -9 are in, by 62 -9 is out; by 79 9 alone is in, by 80 none.
        int[][] rows = {{61, 3, 19, -9}, {62, 3, 18, -8}, {70, 3, 10, 0}, {79, 3, 1, 9}, {79, 0, 18, -9}, {80, 3, 0, -1000}, {80, 0, 19, -9},
            {70, 0, 9, -9}, {30, 7, 10, 0}, {39, 7, 1, 9}, {21, 7, 19, -9}, {22, 3, 1, -9}, {50, 2, 0, -1000}};
        for (int[] row : rows) {
            B.due("meet()", meet(x, row[0], row[1]), 1);
            B.due("how many by " + row[0] + ", " + row[1], x.shifts(0, -1), row[2]);
            B.due("the first", x.shifts(0, 0), row[3]);
        }
        meet(x, 70, 3, 71, 0);
        B.due("each READ: how many", x.shifts(0, -1), 1);
        B.due("each READ: which", x.shifts(0, 0), 0);
        meet(x, 70, 3, 70, 0);
        B.due("none is both", x.shifts(0, -1), 0);
    }

    private static void askBeyondLevels() {
        B.of(Bounds.TERMS_III, "(levels below 0, above 99, too)");
        FlashPages x = written(CHIP + "high 99;low 0;", 1);
        meet(x, 0, 7);
        B.due("0 and more", x.shifts(0, -1), 10);
        B.due("from 0 on", x.shifts(0, 0), 0);
        meet(x, 0, 3);
        B.due("below 0", x.shifts(0, -1), 9);
        B.due("up to -1", x.shifts(0, 8), -1);
        meet(x, 100, 3);
        B.due("above 99", x.shifts(0, -1), 9);
        B.due("from 1 on", x.shifts(0, 0), 1);
        meet(x, 100, 0);
        B.due("up to 99", x.shifts(0, -1), 10);
        B.due("up to 0", x.shifts(0, 9), 0);
    }

    private static void askTelling() {
        B.of(Bounds.TERMS_III, "TELLING is the threshold (0 .. 100) by whose ones, however many, the most of these left are fewest");
        FlashPages x = written(CHIP, 1);
        B.due("of all 19", x.tells(0, 0), 30);
        B.due("left", x.tells(0, 1), 10);
        meet(x, 70, 3, 71, 0);
        B.due("of one: left", x.tells(0, 1), 1);
        B.due("of one", x.tells(0, 0), 0);
        meet(x, 70, 3, 72, 0);
        B.due("of two: how many", x.shifts(0, -1), 2);
        B.due("of two, 0 and 1", x.tells(0, 0), 31);
        B.due("of two: left", x.tells(0, 1), 1);
    }

    private static void askFirstOfLike() {
        B.of(Bounds.TERMS_III, "of like ones the first");
        FlashPages x = written(CHIP, 1);
        // By 30 and 31, 70 and 71, 9 and 10 are told from one another: 30 is the first.
        B.due("of four", x.tells(0, 0), 30);
        x = written(CHIP, 0);
        B.due("of zeros alone", x.tells(0, 0), 30);
        x = written(CHIP, 15);
        B.due("of ones alone", x.tells(0, 0), 70);
        B.due("left", x.tells(0, 1), 10);
    }

    private static void askTellingLimits() {
        B.of(Bounds.TERMS_III, "TELLING is the threshold (0 .. 100)");
        // Levels of 99 are told apart best by 99 and 100: what is above 100 is none.
        FlashPages x = written(CHIP + "high 99;", 15);
        B.due("99", x.tells(0, 0), 99);
        B.due("left", x.tells(0, 1), 10);
        meet(x, 99, 7);
        B.due("0 .. 9 are left", x.shifts(0, -1), 10);
        B.due("100", x.tells(0, 0), 100);
        B.due("1 .. 9 at the most", x.tells(0, 1), 9);
        meet(x, 100, 7);
        B.due("nothing tells 1 .. 9", x.tells(0, 0), 0);
        B.due("all are left", x.tells(0, 1), 9);
        x = Check.made("field 6 poly 67 mends 1 short 0;page a;");
        x.write(0, (1 << 27) - 1, (1 << 30) - 1);
        B.due("of 63 ones", x.tells(0, 0), 70);
        B.due("left", x.tells(0, 1), 10);
        meet(x, 70, 63);
        B.due("63 ones are met", x.shifts(0, -1), 10);
        x = written(CHIP + "low 0;", 0);
        B.due("0", x.tells(0, 0), 0);
        B.due("left", x.tells(0, 1), 10);
        meet(x, 0, 0);
        B.due("nothing tells -9 .. -1", x.tells(0, 0), 0);
        B.due("all are left", x.tells(0, 1), 9);
    }

    private static void askMeet() {
        B.of(24, "The tape (it goes) tells MET, 1 to 16 rows of two bytes: how many rows");
        for (int rows : new int[] {1, 2, 15, 16}) {
            FlashPages x = Check.made(CHIP);
            B.due(rows + " rows", meet(x, new int[2 * rows]), rows);
            B.due("has(8)", x.has(8), rows);
            B.due("the tape went", x.end(1), false);
        }
        // Each of 16 rows counts.
        for (int odd = 0; odd < 16; odd++) {
            FlashPages x = written(CHIP, 1);
            int[] bytes = new int[32];
            for (int i = 0; i < 16; i++) {
                bytes[2 * i] = i == odd ? 70 : 50;
                bytes[2 * i + 1] = 3;
            }
            meet(x, bytes);
            B.due("row " + odd, x.shifts(0, -1), 10);
        }
    }

    private static void askMeetRefused() {
        B.of(24, "NONE, refused (5), when it is none such, or without a chip.");
        int[][] tapes = {{}, {50}, {50, 3, 50}, new int[31], new int[33], new int[34], new int[1600], {101, 3}, {50, 64}};
        for (int[] tape : tapes) {
            B.refused("meet() of " + tape.length + " bytes", 5, -1, Bounds::scene, x -> meet(x, tape));
        }
        B.refused("meet() without a chip", 5, -1, FlashPages::new, x -> meet(x, 50, 3));
    }

    private static void askLatest() {
        B.of(25, "(of the latest meet() of this CHIP that was not refused; all, if there was none)");
        FlashPages x = written(CHIP, 1);
        B.due("there was none", x.shifts(0, -1), 19);
        meet(x, 70, 64);
        B.due("refused ones are none", x.shifts(0, -1), 19);
        meet(x, 70, 3, 71, 0);
        B.due("two rows", x.shifts(0, -1), 1);
        meet(x, 70, 3);
        B.due("the latest alone", x.shifts(0, -1), 10);
        meet(x, 70, 64);
        B.due("not a refused one", x.shifts(0, -1), 10);
        B.due("has(8)", x.has(8), 1);
        x.end(0);
        Check.chip(x, CHIP);
        x.write(0, 0, 1);
        B.due("of this CHIP", x.shifts(0, -1), 19);
        B.due("has(8)", x.has(8), 0);
    }

    private static void askShifts() {
        B.of(25, "how many (k NONE), the k-th, rising. NOTHING when there is none such, or it is not written.");
        FlashPages x = written(CHIP, 1);
        for (int k = 0; k < 19; k++) {
            B.due("shifts(0, " + k + ")", x.shifts(0, k), k - 9);
        }
        for (int k : new int[] {-2, 19, Integer.MIN_VALUE, Integer.MAX_VALUE}) {
            B.due("shifts(0, " + k + ")", x.shifts(0, k), -1000);
        }
        for (int page : new int[] {-1, 1, 2, Integer.MIN_VALUE, Integer.MAX_VALUE}) {
            B.due("shifts(" + page + ", -1)", x.shifts(page, -1), -1000);
            B.due("shifts(" + page + ", 0)", x.shifts(page, 0), -1000);
        }
        meet(x, 50, 2);
        B.due("none left", x.shifts(0, -1), 0);
        B.due("the first of none", x.shifts(0, 0), -1000);
        B.due("without a chip", new FlashPages().shifts(0, -1), -1000);
    }

    private static void askTells() {
        B.of(26, "the threshold (what 0), how many SHIFTS are left at the most (1). NONE without any left, when it is not written, or for others.");
        FlashPages x = written(CHIP, 1);
        B.due("tells(0, 0)", x.tells(0, 0), 30);
        B.due("tells(0, 1)", x.tells(0, 1), 10);
        for (int what : new int[] {-1, 2, Integer.MIN_VALUE, Integer.MAX_VALUE}) {
            B.due("tells(0, " + what + ")", x.tells(0, what), -1);
        }
        for (int page : new int[] {-1, 1, 2, Integer.MIN_VALUE, Integer.MAX_VALUE}) {
            B.due("tells(" + page + ", 0)", x.tells(page, 0), -1);
            B.due("tells(" + page + ", 1)", x.tells(page, 1), -1);
        }
        meet(x, 50, 2);
        B.due("none left", x.tells(0, 0), -1);
        B.due("none left", x.tells(0, 1), -1);
        B.due("without a chip", new FlashPages().tells(0, 0), -1);
    }
}
