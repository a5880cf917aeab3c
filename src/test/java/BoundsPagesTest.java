/** The boundary cases of reads, getting, days (Terms II, III) and of the promises 13 to 23, sentence by sentence. */
public final class BoundsPagesTest {
    private static final int[] FAR = {Integer.MIN_VALUE, -2, Integer.MAX_VALUE};
    private static final String SMALL = Bounds.SMALL;
    private static final String TINY = Bounds.TINY;
    private static final Bounds B = new Bounds();

    public static void main(String[] args) {
        askThreshold();
        askSyndromes();
        askShortestRecurrence();
        askRoots();
        askCauseOne();
        askCauseTwo();
        askCauseThree();
        askTrue();
        askWritten();
        askForty();
        askAsManyAsWanted();
        askTriesHold();
        askNextThreshold();
        askDirection();
        askGotOrLost();
        askLevelsHeld();
        askAgeHeld();
        askDayHeld();
        askAheadOfTheDay();
        askAhead();
        askSpanThresholds();
        askOddsRows();
        askPage();
        askLevel();
        askOnes();
        askSyndrome();
        askLocator();
        askWrong();
        askWhy();
        askGot();
        askGotData();
        askSpan();
        askLost();
        askOdds();
        B.finish();
    }

    /** A page a that is written by DATA, with some cells flipped; page b is not written. */
    private static FlashPages written(String text, int data, int... flipped) {
        FlashPages x = Check.made(text.contains("page") ? text : text + "page a;page b;");
        x.write(0, 0, data);
        for (int cell : flipped) {
            x.flip(0, cell);
        }
        return x;
    }

    private static FlashPages onDay(int day, String text) {
        FlashPages x = Check.made(text);
        for (int left = day; left > 0; left -= 40) {
            x.days(Math.min(40, left));
        }
        return x;
    }

    // ---- reads

    private static void askThreshold() {
        B.of(Bounds.TERMS_II, "bit k is 1, if the level of cell k is no less than that.");
        FlashPages x = written(SMALL + "page a;high 70;low 30;", 1);
        B.due("by 29", x.ones(0, 29), 7);
        B.due("by 30", x.ones(0, 30), 7);
        B.due("by 31", x.ones(0, 31), 3);
        B.due("by 69", x.ones(0, 69), 3);
        B.due("by 70", x.ones(0, 70), 3);
        B.due("by 71", x.ones(0, 71), 0);
        x = written(SMALL + "page a;high 99;low 0;", 1);
        B.due("by 0", x.ones(0, 0), 7);
        B.due("by 1", x.ones(0, 1), 3);
        B.due("by 99", x.ones(0, 99), 3);
        B.due("by 100", x.ones(0, 100), 0);
    }

    private static void askSyndromes() {
        B.of(Bounds.TERMS_II, "ITS SYNDROMES 1 .. 2 t: what it gives at a to the j.");
        int[] powers = {1, 2, 4, 3, 6, 7, 5};
        for (int cell = 0; cell < 7; cell++) {
            FlashPages x = written("field 3 poly 11 mends 3 short 0;", 0, cell);
            for (int j = 1; j <= 6; j++) {
                B.due("cell " + cell + ", syndrome " + j, x.syndrome(0, 50, j), powers[cell * j % 7]);
            }
        }
        FlashPages x = written("field 3 poly 11 mends 3 short 0;", 1);
        for (int j = 1; j <= 6; j++) {
            B.due("of a WORD, " + j, x.syndrome(0, 50, j), 0);
        }
    }

    private static void askShortestRecurrence() {
        B.of(Bounds.TERMS_II, "the least L, so that there are c 1 .. c L with S j = the sum of c i times S (j - i), for all j above L up to 2 t.");
        // No cell, one, two, three of the code of two WORDS, of zeros and of ones.
        String text = "field 3 poly 11 mends 3 short 0;";
        B.due("of no cell", written(text, 0).locator(0, 50, 0), 0);
        FlashPages x = written(text, 0, 6);
        B.due("of one", x.locator(0, 50, 0), 1);
        B.due("c 1 of one", x.locator(0, 50, 1), 5);
        x = written(text, 0, 0, 1);
        B.due("of two", x.locator(0, 50, 0), 2);
        B.due("c 1 of two, 1 + a", x.locator(0, 50, 1), 3);
        B.due("c 2 of two, a", x.locator(0, 50, 2), 2);
        x = written(text, 0, 0, 1, 2);
        B.due("of three", x.locator(0, 50, 0), 3);
        B.due("c 1 of three", x.locator(0, 50, 1), 7);
        B.due("c 2 of three, a + a2 + a3", x.locator(0, 50, 2), 2 ^ 4 ^ 3);
        B.due("c 3 of three, a3", x.locator(0, 50, 3), 3);
        askAllRecurrences("field 4 poly 19 mends 3 short 0;", 4, 19, 3);
        askAllRecurrences("field 5 poly 37 mends 5 short 0;", 5, 37, 5);
        // S 1 and S 2 of a code by t = 1 are x and its square: L is 1 at the most.
        for (int data = 0; data < 2; data++) {
            for (int cell = 1; cell < 4; cell++) {
                B.due("L by t 1", written(TINY, data, 0, cell).locator(0, 50, 0), 1);
            }
        }
    }

    /** By elimination, which the model does, with up to t + 4 cells flipped. */
    private static void askAllRecurrences(String text, int m, int poly, int t) {
        Model.Told told = new Model.Told();
        told.m = m;
        told.poly = poly;
        told.t = t;
        told.names.add("a");
        Model model = new Model(told);
        java.util.Random random = new java.util.Random(t);
        // Reads one behind the other: what one was has no part in the next.
        FlashPages same = Check.made(text + "page a;");
        same.write(0, 0, 1);
        model.write(0, 0, 1);
        for (int i = 0; i < 40; i++) {
            int cell = random.nextInt(model.n);
            same.flip(0, cell);
            model.flip(0, cell);
            B.due("the next why", same.why(0, 50), model.why(0, 50));
            for (int k = 0; k <= t; k++) {
                B.due("the next locator(0, 50, " + k + ")", same.locator(0, 50, k), model.locator(0, 50, k));
            }
        }
        boolean[] causes = new boolean[4];
        for (int i = 0; i < 200; i++) {
            FlashPages x = Check.made(text + "page a;");
            x.write(0, 0, 1);
            model.write(0, 0, 1);
            for (int flips = i % (t + 5); flips > 0; flips--) {
                int cell = random.nextInt(model.n);
                x.flip(0, cell);
                model.flip(0, cell);
            }
            causes[x.why(0, 50) & 3] = true;
            B.due("why", x.why(0, 50), model.why(0, 50));
            for (int k = 0; k <= t + 1; k++) {
                B.due("locator(0, 50, " + k + ")", x.locator(0, 50, k), model.locator(0, 50, k));
                B.due("wrong(0, 50, " + (k - 1) + ")", x.wrong(0, 50, k - 1), model.wrong(0, 50, k - 1));
            }
        }
        B.due("causes 0, 1, 2 are met", causes[0] && causes[1] && causes[2], true);
    }

    private static void askRoots() {
        B.of(Bounds.TERMS_II, "Else its roots are all p from 0 to N - 1 with 1 = the sum of c i times a to the (- p i)");
        for (int m = 3; m <= 6; m++) {
            int n = (1 << m) - 1;
            FlashPages x = written("field " + m + " poly " + Chips.PRIMITIVE[m - 3][0] + " mends 2 short 0;", 0, 0, n - 1);
            B.due("0 and N - 1: how many", x.wrong(0, 50, -1), 2);
            B.due("0", x.wrong(0, 50, 0), 0);
            B.due("N - 1", x.wrong(0, 50, 1), n - 1);
        }
    }

    private static void askCauseOne() {
        B.of(Bounds.TERMS_II, "If L is above t, the READ is REFUSED (cause 1).");
        // By t = 2: 0, 0, x, 0 have no recurrence that is shorter than 3.
        FlashPages x = written("field 4 poly 19 mends 2 short 0;", 0, 0, 1, 4);
        B.due("S 1, 1 + a + a4", x.syndrome(0, 50, 1), 0);
        B.due("S 3 is not 0", x.syndrome(0, 50, 3) != 0, true);
        B.due("L", x.locator(0, 50, 0), 3);
        B.due("why", x.why(0, 50), 1);
        B.due("as many as t are not refused", written("field 4 poly 19 mends 2 short 0;", 0, 0, 1).why(0, 50), 0);
    }

    private static void askCauseTwo() {
        B.of(Bounds.TERMS_II, "if there are not L of these, it is REFUSED (cause 2)");
        int met = 0;
        for (int cell = 2; cell < 15; cell++) {
            FlashPages x = written("field 4 poly 19 mends 2 short 0;", 0, 0, 1, cell);
            if (x.locator(0, 50, 0) == 2 && roots(x, 15) != 2) {
                B.due("why of 0, 1, " + cell, x.why(0, 50), 2);
                met++;
            } else if (x.locator(0, 50, 0) == 2) {
                B.due("why of 0, 1, " + cell, x.why(0, 50), 0);
            }
        }
        B.due("some were met", met > 0, true);
    }

    /** How many p from 0 to N - 1 there are with 1 = c 1 times a to the -p and c 2 times a to the -2 p. */
    private static int roots(FlashPages x, int n) {
        int count = 0;
        for (int p = 0; p < n; p++) {
            int sum = product(x, x.locator(0, 50, 1), (n - p) % n, n) ^ product(x, x.locator(0, 50, 2), 2 * (n - p) % n, n);
            count += sum == 1 ? 1 : 0;
        }
        return count;
    }

    private static int product(FlashPages x, int element, int exponent, int n) {
        return element == 0 ? 0 : x.field((x.field(element, 1) + exponent) % n, 0);
    }

    private static void askCauseThree() {
        B.of(Bounds.TERMS_II, "if one of them is no cell, it is REFUSED (cause 3)");
        // Of 4 cells: 0 and 2 tell 6, 1 and 2 tell 4, the first that is no cell, 2 and 3 tell 5.
        for (int cell : new int[] {0, 1, 3}) {
            FlashPages x = written(TINY, 0, 2, cell);
            B.due("why of 2, " + cell, x.why(0, 50), 3);
            B.due("L", x.locator(0, 50, 0), 1);
            B.due("c 1 is told", x.locator(0, 50, 1), x.field(2, 0) ^ x.field(cell, 0));
        }
        // 0 and 1 tell 3, the last cell.
        FlashPages x = written(TINY, 0, 0, 1);
        B.due("why of 0, 1", x.why(0, 50), 0);
        B.due("cell 3", x.wrong(0, 50, 0), 3);
        // By one cell less, 3 is no cell any more: of 5 cells 4 is the last one, of 6 cells 5.
        x = written("field 3 poly 11 mends 1 short 2;", 0, 1, 2);
        B.due("4 of 5 cells", x.why(0, 50), 0);
        x = written("field 3 poly 11 mends 1 short 2;", 0, 2, 3);
        B.due("5 of 5 cells", x.why(0, 50), 3);
    }

    private static void askTrue() {
        B.of(Bounds.TERMS_II, "It is TRUE, if that is the WORD that was written.");
        B.due("no cell", written(SMALL, 1).got(0, 3), 1);
        B.due("one cell", written(SMALL, 1, 6).got(0, 3), 1);
        FlashPages x = written(SMALL, 1, 6, 5);
        B.due("two cells: it is GOT", x.got(0, 4), 0);
        B.due("but not TRUE", x.got(0, 3), 0);
        // Another WORD, without a wrong cell.
        x = written(SMALL, 0, 0, 1, 3);
        B.due("none MENDED", x.got(0, 0), 0);
        B.due("DATA 1 is GOT", x.got(0, 5), 1);
        B.due("not TRUE", x.got(0, 3), 0);
        // The cells 5 and 6 tell cell 1: 0, 3, 5, 6 are GOT.
        x = written(SMALL, 1, 5, 6);
        B.due("one MENDED wrongly", x.got(0, 0), 1);
        B.due("DATA", x.got(0, 5), 13);
        B.due("refreshed", x.refresh(0), 1);
        B.due("a zero now", x.level(0, 1, 0), 30);
        B.due("a one now", x.level(0, 5, 0), 70);
    }

    private static void askWritten() {
        B.of(Bounds.TERMS_II, "cells of which the bit of its WORD is 1 have the level that high tells, the others that of low; WANTED are as many ones as the WORD has.");
        FlashPages x = written(SMALL + "page a;high 88;low 11;", 1);
        for (int k = 0; k < 7; k++) {
            B.due("level of " + k, x.level(0, k, 0), k == 0 || k == 1 || k == 3 ? 88 : 11);
        }
        B.due("WANTED", x.page(0, 2), 3);
        x.write(0, 0, 0);
        B.due("WANTED none", x.page(0, 2), 0);
        x.write(0, 0, 15);
        B.due("WANTED all", x.page(0, 2), 7);
    }

    // ---- getting

    /** Of TINY, cells 0 and 2 being 69 where none is wanted: REFUSED (3) by 31 .. 69, GOT by 70. */
    private static FlashPages tooMany(String rest) {
        return written(TINY + "page a;" + rest, 0, 0, 2);
    }

    /** Cells 0 and 1 being 29, 2 being 69 where 0, 1, 3 are wanted: REFUSED (3) by 30 .. 69. */
    private static FlashPages tooFew(String rest) {
        return written(TINY + "page a;" + rest, 1, 0, 1, 2);
    }

    private static void askForty() {
        B.of(Bounds.TERMS_II, "as long as a READ is REFUSED, there were below 40 of them");
        // Cells 0 and 2 being 79: REFUSED by 21 .. 79, GOT by 80.
        for (int mid : new int[] {42, 41, 40}) {
            FlashPages x = tooMany("low 20;step 1;tries all;mid " + mid + ";");
            B.due("READS from " + mid, x.got(0, 1), mid == 42 ? 39 : 40);
            B.due("the last by", x.got(0, 2), mid == 40 ? 79 : 80);
            B.due("it is GOT", x.got(0, 3), mid == 40 ? 0 : 1);
            B.due("by the cause", x.got(0, 4), mid == 40 ? 3 : 0);
        }
    }

    private static void askAsManyAsWanted() {
        B.of(Bounds.TERMS_II, "it has more or fewer ones than WANTED");
        // 2 instead of 0: REFUSED, with three ones as wanted.
        FlashPages x = written(TINY + "page a;tries all;", 1, 0, 2);
        B.due("ones", x.ones(0, 50), x.page(0, 2));
        B.due("why", x.why(0, 50), 3);
        B.due("READS", x.got(0, 1), 1);
        B.due("LOST by", x.got(0, 4), 3);
        // Of 7 cells of 15, 0, 1, 4 being wanted: 0, 2, 3 tell 13, and there are four ones; 0, 1, 2 tell 10, there are two.
        String seven = "field 4 poly 19 mends 1 short 8;page a;step 7;tries tried<2;";
        x = written(seven, 1, 0, 2, 3);
        B.due("one more", x.ones(0, 50) - x.page(0, 2), 1);
        B.due("READS", x.got(0, 1), 2);
        B.due("by", x.got(0, 2), 57);
        x = written(seven, 1, 0, 1, 2);
        B.due("one fewer", x.ones(0, 50) - x.page(0, 2), -1);
        B.due("READS", x.got(0, 1), 2);
        B.due("by", x.got(0, 2), 43);
    }

    private static void askTriesHold() {
        B.of(Bounds.TERMS_II, "the TEST of tries holds (without it: tried < 8)");
        B.due("without it", tooMany("step 1;").got(0, 1), 8);
        B.due("without it, by", tooMany("step 1;").got(0, 2), 57);
        B.due("GOT by the 8th", tooMany("step 1;mid 63;").got(0, 3), 1);
        B.due("LOST by the 8th", tooMany("step 1;mid 62;").got(0, 3), 0);
        B.due("not all", tooMany("step 1;tries not all;").got(0, 1), 1);
        B.due("tried < 9", tooMany("step 1;tries tried<9;").got(0, 1), 9);
        B.due("tried < 1", tooMany("step 1;tries tried<1;").got(0, 1), 1);
    }

    private static void askNextThreshold() {
        B.of(Bounds.TERMS_II, "the next threshold is one of 1 .. 99");
        // Levels of 99: REFUSED by each threshold up to 99.
        String up = TINY + "page a;low 0;tries all;";
        B.due("up to 99", written(up + "mid 79;step 20;", 0, 0, 2).got(0, 2), 99);
        B.due("READS", written(up + "mid 79;step 20;", 0, 0, 2).got(0, 1), 2);
        B.due("not to 100", written(up + "mid 80;step 20;", 0, 0, 2).got(0, 2), 80);
        B.due("READS", written(up + "mid 80;step 20;", 0, 0, 2).got(0, 1), 1);
        B.due("mid 99", written(up + "mid 99;step 1;", 0, 0, 2).got(0, 1), 1);
        // Levels of 0 where 99 was written.
        String down = TINY + "page a;high 99;low 0;tries all;";
        B.due("why", written(down, 1, 0, 1, 2).why(0, 1), 3);
        B.due("down to 1", written(down + "mid 21;step 20;", 1, 0, 1, 2).got(0, 2), 1);
        B.due("READS", written(down + "mid 21;step 20;", 1, 0, 1, 2).got(0, 1), 2);
        B.due("not to 0", written(down + "mid 20;step 20;", 1, 0, 1, 2).got(0, 2), 20);
        B.due("READS", written(down + "mid 20;step 20;", 1, 0, 1, 2).got(0, 1), 1);
        B.due("mid 1", written(down + "mid 1;step 1;", 1, 0, 1, 2).got(0, 1), 1);
    }

    private static void askDirection() {
        B.of(Bounds.TERMS_II, "by a threshold that is greater (if there are more ones), less (if there are fewer) by as much as step tells.");
        B.due("greater", tooMany("tries tried<2;step 5;").got(0, 2), 55);
        B.due("less", tooFew("tries tried<2;step 5;").got(0, 2), 45);
        // To and fro: of 15 ones of 27 cells 9 are left by 50, all cells are ones by 30, and 40 is in between.
        String wide = "field 5 poly 37 mends 3 short 4;page a;high 60;low 40;drifts if(bit=0,0-5,if(cell%2=0,0-15,0));";
        int[] last = {50, 30, 50, 30};
        for (int reads = 1; reads <= 4; reads++) {
            FlashPages x = written(wide + "step 20;tries tried<" + reads + ";", 345);
            x.days(1);
            B.due("ones by 50", x.ones(0, 50), 9);
            B.due("ones by 30", x.ones(0, 30), 27);
            B.due("READS", x.got(0, 1), reads);
            B.due("to and fro", x.got(0, 2), last[reads - 1]);
        }
        FlashPages x = written(wide + "step 10;", 345);
        x.days(1);
        B.due("GOT by 40", x.got(0, 2), 40);
        B.due("and TRUE", x.got(0, 3), 1);
    }

    private static void askGotOrLost() {
        B.of(Bounds.TERMS_II, "It is GOT, if the last READ is not REFUSED; else it is LOST, by the cause of the last READ.");
        FlashPages x = tooMany("step 20;");
        B.due("GOT by the second", x.got(0, 1), 2);
        B.due("its cause", x.got(0, 4), 0);
        x = tooMany("step 20;tries not all;");
        B.due("LOST by the first", x.got(0, 4), 3);
    }

    // ---- days

    private static void askLevelsHeld() {
        B.of(Bounds.TERMS_II, "0 .. 99 (below is 0, above 99)");
        FlashPages x = written(SMALL + "page a;high 98;low 1;drifts if(bit=1,1,0-1);", 1);
        B.due("98 and 1", x.level(0, 0, 1), 99);
        B.due("99 and 1", x.level(0, 0, 2), 99);
        B.due("1 less 1", x.level(0, 2, 1), 0);
        B.due("0 less 1", x.level(0, 2, 2), 0);
        x.days(2);
        B.due("99 for good", x.level(0, 0, 0), 99);
        B.due("0 for good", x.level(0, 2, 0), 0);
        x = written(SMALL + "page a;drifts if(cell=0,9999*9999,0-9999*9999);", 1);
        B.due("far above", x.level(0, 0, 1), 99);
        B.due("far below", x.level(0, 1, 1), 0);
        x = written(SMALL + "page a;", 1);
        B.due("(without it: 0)", x.level(0, 0, 40), 70);
    }

    private static void askAgeHeld() {
        B.of(Bounds.TERMS_II, "each is written for one DAY more (99 at most)");
        FlashPages x = written(SMALL + "page a;drifts if(age=98,1,if(age=99,2,if(age>99,9,0)));", 1);
        x.days(40);
        x.days(40);
        x.days(18);
        B.due("DAYS", x.page(0, 1), 98);
        B.due("level", x.level(0, 0, 0), 70);
        B.due("ahead by 98", x.level(0, 0, 1), 71);
        B.due("ahead by 99", x.level(0, 0, 2), 73);
        B.due("ahead by 99 again", x.level(0, 0, 3), 75);
        x.days(1);
        B.due("DAYS", x.page(0, 1), 99);
        x.days(1);
        B.due("DAYS", x.page(0, 1), 99);
        x.chance(1);
        B.due("DAYS", x.page(0, 1), 99);
        B.due("level", x.level(0, 0, 0), 75);
        B.due("the DAY goes on", x.has(6), 101);
    }

    private static void askDayHeld() {
        B.of(Bounds.TERMS_II, "A DAY: the level of each cell of each PAGE that is written is more by the SUM of drifts");
        FlashPages full = Check.made("field 6 poly 67 mends 1 short 0;page a;page b;page c;page d;page e;page f;noise 100;drifts 1;");
        for (int page = 0; page < 6; page++) {
            B.due("write(" + page + ")", full.write(page, page, 1), true);
        }
        B.due("days(1) of six PAGES of 63 cells", full.days(1), 6);
        for (int page = 0; page < 6; page++) {
            B.due("cell 62 of page " + page, full.level(page, 62, 0), 31);
        }
        B.due("chance(1)", full.chance(1), 6);
        B.of(Bounds.TERMS_II, "the DAY is one more (999 at most)");
        FlashPages x = onDay(998, SMALL + "page a;");
        B.due("DAY", x.has(6), 998);
        B.due("days(2)", x.days(2), -1);
        B.due("days(1)", x.days(1), 0);
        B.due("DAY", x.has(6), 999);
        B.due("days(1) more", x.days(1), -1);
        B.due("chance(1) more", x.chance(1), -1);
        B.due("DAY", x.has(6), 999);
    }

    private static void askAheadOfTheDay() {
        B.of(Bounds.TERMS_II, "(without it: 0; by what was so ahead of the DAY)");
        FlashPages x = written(SMALL + "page a;drifts day+10*age-(level-70);", 1);
        B.due("one day", x.level(0, 0, 1), 70);
        B.due("two days", x.level(0, 0, 2), 81);
        B.due("three days", x.level(0, 0, 3), 92);
        x.days(2);
        B.due("as it comes", x.level(0, 0, 0), 81);
    }

    private static void askAhead() {
        B.of(Bounds.TERMS_III, "AHEAD are DAYS as they come from now on without DRAWS (40 at most, not beyond DAY 999).");
        FlashPages x = written(SMALL + "page a;noise 100;drifts if(bit=1,0,1);", 1);
        B.due("40", x.level(0, 2, 40), 70);
        B.due("41", x.level(0, 2, 41), -1);
        B.due("no DRAWS", x.has(10), 1);
        for (int day : new int[] {958, 959, 960, 998, 999}) {
            x = onDay(day, SMALL + "page a;");
            x.write(0, 0, 1);
            int most = Math.min(40, 999 - day);
            B.due("on " + day + ", " + most, x.level(0, 0, most), 70);
            B.due("on " + day + ", " + (most + 1), x.level(0, 0, most + 1), -1);
            B.due("days(" + (most + 1) + ")", x.days(most + 1), -1);
            if (most > 0) {
                B.due("days(" + most + ")", x.days(most), 1);
            }
        }
    }

    private static void askSpanThresholds() {
        B.of(Bounds.TERMS_III, "THE SPAN of a PAGE are the least, the greatest threshold (1 .. 99) by which a READ of it is not REFUSED and TRUE.");
        // All ones are TRUE by 0, no ones by 100, but these are none of 1 .. 99.
        FlashPages x = written(SMALL + "page a;high 99;low 0;", 15);
        B.due("least of all ones", x.span(0, 0), 1);
        B.due("greatest of all ones", x.span(0, 1), 99);
        x = written(SMALL + "page a;high 99;low 0;", 0);
        B.due("least of no ones", x.span(0, 0), 1);
        B.due("greatest of no ones", x.span(0, 1), 99);
        x = written(SMALL + "page a;high 51;low 49;", 1);
        B.due("least", x.span(0, 0), 50);
        B.due("greatest", x.span(0, 1), 51);
        // Not REFUSED but not TRUE is not in it: by 31 the cells 0, 1 (29) are gone.
        x = written(SMALL, 1, 0, 1);
        B.due("why", x.why(0, 31), 0);
        B.due("none is TRUE", x.span(0, 0), -1);
        B.due("none is TRUE", x.span(0, 1), -1);
        // Three wrong cells of seven are mended, four are not: by 70 none is wrong.
        x = written("field 3 poly 11 mends 3 short 0;", 0, 0, 1, 2);
        B.due("least of three", x.span(0, 0), 31);
        x.flip(0, 3);
        B.due("least of four", x.span(0, 0), 70);
        B.due("greatest of four", x.span(0, 1), 99);
    }

    private static void askOddsRows() {
        B.of(Bounds.TERMS_III, "ODDS of a PAGE are by how many of all rows of a number below 100, a cell it is GOT and TRUE behind the next DAY by the seed (as far as its own DRAWS go).");
        String alone = "page a;tries not all;";
        B.due("noise 0", written(SMALL + alone + "noise 0;", 1, 6).odds(0), 700);
        B.due("noise 1", written(SMALL + alone + "noise 1;", 1, 6).odds(0), 99 * 7 + 1);
        B.due("noise 99", written(SMALL + alone + "noise 99;", 1, 6).odds(0), 7 + 99);
        B.due("noise 100", written(SMALL + alone + "noise 100;", 1, 6).odds(0), 100);
        B.due("none wrong, noise 100", written(SMALL + alone + "noise 100;", 1).odds(0), 700);
        B.due("two wrong, noise 0", written(SMALL + alone + "noise 0;", 1, 5, 6).odds(0), 0);
        B.due("two wrong, noise 100", written(SMALL + alone + "noise 100;", 1, 5, 6).odds(0), 200);
        // The DAY's drift comes first: it turns cell 0 and cell 1.
        B.due("behind the DAY", written(SMALL + alone + "noise 100;drifts if(cell<2,0-60,0);", 1).odds(0), 200);
        B.due("and without noise", written(SMALL + alone + "drifts if(cell<2,0-60,0);", 1).odds(0), 0);
    }

    // ---- what is told

    private static void askPage() {
        B.of(13, "0 whether it is written, 1 for how many DAYS (0: not written), 2 WANTED (0: not written). NONE when there is none such, or for others.");
        FlashPages x = written(SMALL, 1);
        x.days(7);
        int[] due = {1, 7, 3};
        for (int what = 0; what < 3; what++) {
            B.due("page(0, " + what + ")", x.page(0, what), due[what]);
            B.due("page(1, " + what + ")", x.page(1, what), 0);
            for (int page : new int[] {-1, 2, 6, Integer.MIN_VALUE, Integer.MAX_VALUE}) {
                B.due("page(" + page + ", " + what + ")", x.page(page, what), -1);
            }
        }
        for (int what : new int[] {-1, 3, Integer.MIN_VALUE, Integer.MAX_VALUE}) {
            B.due("page(0, " + what + ")", x.page(0, what), -1);
            B.due("page(1, " + what + ")", x.page(1, what), -1);
        }
        B.due("without a chip", new FlashPages().page(0, 0), -1);
    }

    private static void askLevel() {
        B.of(14, "The level of a cell of a PAGE that is written behind n DAYS AHEAD (0 .. 40); NONE when there is none such, or n can't be.");
        FlashPages x = written(SMALL + "page a;page b;drifts 0-1;", 1);
        B.due("now", x.level(0, 0, 0), 70);
        B.due("behind 1", x.level(0, 0, 1), 69);
        B.due("behind 40", x.level(0, 0, 40), 30);
        B.due("the last cell", x.level(0, 6, 40), 0);
        for (int n : new int[] {-1, 41, Integer.MIN_VALUE, Integer.MAX_VALUE}) {
            B.due("level(0, 0, " + n + ")", x.level(0, 0, n), -1);
        }
        for (int cell : new int[] {-1, 7, 63, Integer.MIN_VALUE, Integer.MAX_VALUE}) {
            B.due("level(0, " + cell + ", 0)", x.level(0, cell, 0), -1);
        }
        for (int page : new int[] {-1, 1, 2, Integer.MIN_VALUE, Integer.MAX_VALUE}) {
            B.due("level(" + page + ", 0, 0)", x.level(page, 0, 0), -1);
        }
        x = written(TINY, 1);
        B.due("cell 3 of 4", x.level(0, 3, 0), 70);
        B.due("cell 4 of 4", x.level(0, 4, 0), -1);
    }

    private static void askOnes() {
        B.of(15, "How many ones a READ of a PAGE by a threshold (0 .. 100) has; NONE when it is not written, or there are none such.");
        FlashPages x = written(SMALL, 1);
        B.due("by 0", x.ones(0, 0), 7);
        B.due("by 100", x.ones(0, 100), 0);
        for (int at : new int[] {-1, 101, Integer.MIN_VALUE, Integer.MAX_VALUE}) {
            B.due("ones(0, " + at + ")", x.ones(0, at), -1);
        }
        for (int page : new int[] {-1, 1, 2, Integer.MIN_VALUE, Integer.MAX_VALUE}) {
            B.due("ones(" + page + ", 50)", x.ones(page, 50), -1);
        }
        x.erase(0);
        B.due("erased", x.ones(0, 50), -1);
    }

    private static void askSyndrome() {
        B.of(16, "SYNDROME j (1 .. 2 t) of a READ; NONE when it is not written, or there are none such.");
        for (int t = 1; t <= 5; t++) {
            FlashPages x = written("field 6 poly 67 mends " + t + " short 0;", 0, 1);
            B.due("the first", x.syndrome(0, 50, 1), 2);
            B.due("the last", x.syndrome(0, 50, 2 * t), x.field(2 * t, 0));
            B.due("the next", x.syndrome(0, 50, 2 * t + 1), -1);
            B.due("none", x.syndrome(0, 50, 0), -1);
            B.due("by 0", x.syndrome(0, 0, 1), 0);
            B.due("by 100", x.syndrome(0, 100, 1), 0);
            for (int j : FAR) {
                B.due("syndrome(0, 50, " + j + ")", x.syndrome(0, 50, j), -1);
            }
            for (int at : new int[] {-1, 101, Integer.MIN_VALUE, Integer.MAX_VALUE}) {
                B.due("syndrome(0, " + at + ", 1)", x.syndrome(0, at, 1), -1);
            }
            B.due("not written", x.syndrome(1, 50, 1), -1);
            B.due("no page", x.syndrome(2, 50, 1), -1);
            B.due("no page", x.syndrome(-1, 50, 1), -1);
        }
    }

    private static void askLocator() {
        B.of(17, "NONE when it is REFUSED by cause 1 (but for k 0), is not written, or there are none such.");
        FlashPages x = written("field 4 poly 19 mends 2 short 0;", 0, 0, 1, 4);
        B.due("cause 1: L", x.locator(0, 50, 0), 3);
        for (int k = 1; k <= 4; k++) {
            B.due("cause 1: c " + k, x.locator(0, 50, k), -1);
        }
        x = written("field 4 poly 19 mends 2 short 0;", 0, 0, 1);
        B.due("L", x.locator(0, 50, 0), 2);
        B.due("c 1", x.locator(0, 50, 1), 3);
        B.due("c 2", x.locator(0, 50, 2), 2);
        for (int k : new int[] {-1, 3, Integer.MIN_VALUE, Integer.MAX_VALUE}) {
            B.due("locator(0, 50, " + k + ")", x.locator(0, 50, k), -1);
        }
        for (int at : new int[] {-1, 101, Integer.MIN_VALUE, Integer.MAX_VALUE}) {
            B.due("locator(0, " + at + ", 0)", x.locator(0, at, 0), -1);
        }
        B.due("by 0", x.locator(0, 0, 0), 0);
        B.due("by 100", x.locator(0, 100, 0), 0);
        B.due("of no wrong cell, c 1", x.locator(0, 100, 1), -1);
        for (int page : new int[] {-1, 1, 2, Integer.MAX_VALUE}) {
            B.due("locator(" + page + ", 50, 0)", x.locator(page, 50, 0), -1);
        }
        B.due("cause 3: c 1 is told", written(TINY, 0, 0, 2).locator(0, 50, 1), 5);
    }

    private static void askWrong() {
        B.of(18, "how many (k NONE), the k-th, rising. NONE when it is REFUSED, is not written, or there are none such.");
        FlashPages x = written("field 6 poly 67 mends 5 short 0;", 0, 62, 0, 31, 7, 55);
        B.due("how many", x.wrong(0, 50, -1), 5);
        int[] due = {0, 7, 31, 55, 62};
        for (int k = 0; k < 5; k++) {
            B.due("wrong(0, 50, " + k + ")", x.wrong(0, 50, k), due[k]);
        }
        for (int k : new int[] {-2, 5, Integer.MIN_VALUE, Integer.MAX_VALUE}) {
            B.due("wrong(0, 50, " + k + ")", x.wrong(0, 50, k), -1);
        }
        for (int at : new int[] {-1, 101, Integer.MIN_VALUE, Integer.MAX_VALUE}) {
            B.due("wrong(0, " + at + ", -1)", x.wrong(0, at, -1), -1);
        }
        B.due("none by 100", x.wrong(0, 100, -1), 0);
        B.due("the first of none", x.wrong(0, 100, 0), -1);
        for (int page : new int[] {-1, 1, 2, Integer.MAX_VALUE}) {
            B.due("wrong(" + page + ", 50, -1)", x.wrong(page, 50, -1), -1);
        }
        B.due("REFUSED by 3", written(TINY, 0, 0, 2).wrong(0, 50, -1), -1);
        B.due("REFUSED by 3", written(TINY, 0, 0, 2).wrong(0, 50, 0), -1);
        B.due("REFUSED by 1", written("field 4 poly 19 mends 2 short 0;", 0, 0, 1, 4).wrong(0, 50, -1), -1);
    }

    private static void askWhy() {
        B.of(19, "By which cause a READ is REFUSED (0: it is not); NONE when it is not written, or there are none such.");
        FlashPages x = written(TINY, 0, 0, 2);
        B.due("REFUSED", x.why(0, 50), 3);
        B.due("by 70", x.why(0, 70), 0);
        B.due("by 100", x.why(0, 100), 0);
        B.due("by 0, all four: cell 2 is told", x.why(0, 0), 0);
        for (int at : new int[] {-1, 101, Integer.MIN_VALUE, Integer.MAX_VALUE}) {
            B.due("why(0, " + at + ")", x.why(0, at), -1);
        }
        for (int page : new int[] {-1, 1, 2, Integer.MIN_VALUE, Integer.MAX_VALUE}) {
            B.due("why(" + page + ", 50)", x.why(page, 50), -1);
        }
    }

    private static void askGot() {
        B.of(20, "0 how many cells are MENDED (NONE: it is LOST), 1 how many READS, 2 the last threshold, 3 whether GOT and TRUE, 4 the cause by which it is LOST (0: it is not)");
        FlashPages x = written(SMALL, 9, 4);
        int[] due = {1, 1, 50, 1, 0, 9, 0};
        int[] lost = {-1, 8, 57, 0, 3, -1, -1};
        FlashPages y = tooMany("step 1;");
        for (int what = 0; what < 7; what++) {
            B.due("got(0, " + what + ")", x.got(0, what), due[what]);
            B.due("LOST, got(0, " + what + ")", y.got(0, what), lost[what]);
            for (int page : new int[] {-1, 1, 2, Integer.MIN_VALUE, Integer.MAX_VALUE}) {
                B.due("got(" + page + ", " + what + ")", x.got(page, what), -1);
            }
        }
        for (int what : new int[] {-1, 7, Integer.MIN_VALUE, Integer.MAX_VALUE}) {
            B.due("got(0, " + what + ")", x.got(0, what), -1);
        }
    }

    private static void askGotData() {
        B.of(20, "5 the lower 30 bits of what is GOT as DATA, 6 the upper ones (NONE: LOST). NONE when it is not written, or for others.");
        int most = (1 << 30) - 1;
        int[][] data = {{27, 0, most}, {26, 1, 0}, {26, 1, most}, {0, (1 << 27) - 1, most}, {0, (1 << 27) - 1, 0}, {0, 0, 1 << 29}};
        for (int[] row : data) {
            FlashPages x = Check.made("field 6 poly 67 mends 1 short " + row[0] + ";page a;");
            x.write(0, row[1], row[2]);
            x.flip(0, 5);
            B.due("lower bits", x.got(0, 5), row[2]);
            B.due("upper bits", x.got(0, 6), row[1]);
        }
    }

    private static void askSpan() {
        B.of(21, "the least (what 0), the greatest (1). NONE when there is none, it is not written, or for others.");
        FlashPages x = written(SMALL, 1);
        B.due("the least", x.span(0, 0), 31);
        B.due("the greatest", x.span(0, 1), 70);
        for (int what : new int[] {-1, 2, Integer.MIN_VALUE, Integer.MAX_VALUE}) {
            B.due("span(0, " + what + ")", x.span(0, what), -1);
        }
        for (int page : new int[] {-1, 1, 2, Integer.MIN_VALUE, Integer.MAX_VALUE}) {
            B.due("span(" + page + ", 0)", x.span(page, 0), -1);
            B.due("span(" + page + ", 1)", x.span(page, 1), -1);
        }
        x.flip(0, 0);
        x.flip(0, 1);
        B.due("there is none", x.span(0, 0), -1);
        B.due("there is none", x.span(0, 1), -1);
    }

    private static void askLost() {
        B.of(22, "(0: now; 40 at most) a PAGE is first not GOT and TRUE; NONE when it is till then, or is not written.");
        for (int age : new int[] {0, 1, 38, 39, 40}) {
            FlashPages x = written(SMALL + "page a;page b;drifts if(age=" + age + " and cell<2,0-60,0);", 1);
            B.due("two cells fall on day " + age, x.lost(0), age < 40 ? age + 1 : -1);
            B.due("not written", x.lost(1), -1);
            B.due("no page", x.lost(2), -1);
            B.due("no page", x.lost(-1), -1);
            x.flip(0, 0);
            x.flip(0, 1);
            B.due("now", x.lost(0), 0);
        }
        // First: it is back on the next day.
        FlashPages x = written(SMALL + "page a;drifts if(cell>1,0,if(age=3,0-60,if(age=4,60,0)));", 1);
        B.due("the first", x.lost(0), 4);
        // By the PAGE and the DAY.
        x = Check.made(SMALL + "page a;page b;drifts if(cell<2 and day=page*7,0-60,0);");
        x.days(3);
        x.write(0, 0, 1);
        x.write(1, 0, 1);
        B.due("page a", x.lost(0), -1);
        B.due("page b", x.lost(1), 5);
        x.days(4);
        B.due("odds of page a", x.odds(0), 700);
        B.due("odds of page b", x.odds(1), 0);
        // GOT but not TRUE is lost, LOST is too.
        B.due("not TRUE", written(SMALL, 1, 5, 6).lost(0), 0);
        B.due("LOST", tooMany("tries not all;").lost(0), 0);
        // Not beyond DAY 999.
        for (int day : new int[] {996, 997, 999}) {
            x = onDay(day, SMALL + "page a;drifts if(age=2 and cell<2,0-60,0);");
            x.write(0, 0, 1);
            B.due("on DAY " + day, x.lost(0), day == 996 ? 3 : -1);
        }
        B.due("without a chip", new FlashPages().lost(0), -1);
    }

    private static void askOdds() {
        B.of(23, "ODDS of a PAGE; all rows for the PAGE NONE. NONE when it is not written, at DAY 999, or without a chip.");
        FlashPages x = written(SMALL, 1);
        B.due("odds(0)", x.odds(0), 700);
        B.due("odds(-1)", x.odds(-1), 700);
        for (int page : new int[] {1, 2, -2, Integer.MIN_VALUE, Integer.MAX_VALUE}) {
            B.due("odds(" + page + ")", x.odds(page), -1);
        }
        B.due("all rows of four cells", Check.made(TINY).odds(-1), 400);
        B.due("all rows of 63 cells", Check.made("field 6 poly 67 mends 1 short 0;").odds(-1), 6300);
        for (int day : new int[] {998, 999}) {
            x = onDay(day, SMALL + "page a;");
            x.write(0, 0, 1);
            B.due("odds(0) on " + day, x.odds(0), day == 998 ? 700 : -1);
            B.due("odds(-1) on " + day, x.odds(-1), day == 998 ? 700 : -1);
        }
        B.due("without a chip", new FlashPages().odds(0), -1);
        B.due("without a chip", new FlashPages().odds(-1), -1);
    }
}
