/** Promises 27 to 35: acts, what is kept, what is undone. */
public final class ActsTest {
    private static final String SMALL = "field 3 poly 11 mends 1 short 0;page a;page b;";
    private static final Check CHECK = new Check();

    public static void main(String[] args) {
        askWriting();
        askErasing();
        askFlipping();
        askRefreshing();
        askWrongRefreshing();
        askDays();
        askChance();
        askUndoing();
        askSeed();
        askKept();
        askKeptUndone();
        CHECK.finish();
    }

    private static void askWriting() {
        FlashPages x = Check.made(SMALL + "high 80;low 20;");
        CHECK.due("write", x.write(1, 0, 15), true);
        CHECK.due("level", x.level(1, 6, 0), 80);
        CHECK.due("has(5)", x.has(5), 1);
        x.flip(1, 0);
        x.days(2);
        CHECK.due("write anew", x.write(1, 0, 1), true);
        CHECK.due("its level", x.level(1, 0, 0), 80);
        CHECK.due("its level", x.level(1, 6, 0), 20);
        CHECK.due("its days", x.page(1, 1), 0);
        CHECK.due("has(5)", x.has(5), 1);
        CHECK.due("has(9)", x.has(9), 4);
        CHECK.due("no page", x.write(2, 0, 1), false);
        CHECK.due("no page", x.write(-1, 0, 1), false);
        CHECK.due("too many bits", x.write(0, 0, 16), false);
        CHECK.due("too many bits above", x.write(0, 1, 0), false);
        CHECK.due("low below 0", x.write(0, 0, -1), false);
        CHECK.due("high below 0", x.write(0, -1, 0), false);
        CHECK.due("status(3)", x.status(3), 6);
        CHECK.due("has(9)", x.has(9), 4);
        CHECK.due("has(7)", x.has(7), 2);
        CHECK.due("without a chip", new FlashPages().write(0, 0, 0), false);
    }

    private static void askErasing() {
        FlashPages x = Check.made(SMALL);
        CHECK.due("not written", x.erase(0), false);
        x.write(0, 0, 3);
        x.days(1);
        CHECK.due("erase", x.erase(0), true);
        CHECK.due("page(0,0)", x.page(0, 0), 0);
        CHECK.due("page(0,1)", x.page(0, 1), 0);
        CHECK.due("page(0,2)", x.page(0, 2), 0);
        CHECK.due("level", x.level(0, 0, 0), -1);
        CHECK.due("erase again", x.erase(0), false);
        CHECK.due("no page", x.erase(2), false);
        CHECK.due("status(3)", x.status(3), 3);
        CHECK.due("not kept", x.has(7), 1);
        CHECK.due("undo", x.undo(), true);
        CHECK.due("page(0,1)", x.page(0, 1), 1);
        CHECK.due("got", x.got(0, 5), 3);
    }

    private static void askFlipping() {
        FlashPages x = Check.made(SMALL);
        CHECK.due("not written", x.flip(0, 0), false);
        x.write(0, 0, 1);
        CHECK.due("flip", x.flip(0, 0), true);
        CHECK.due("29", x.level(0, 0, 0), 29);
        CHECK.due("flip back", x.flip(0, 0), true);
        CHECK.due("70", x.level(0, 0, 0), 70);
        CHECK.due("no cell", x.flip(0, 7), false);
        CHECK.due("no cell", x.flip(0, -1), false);
        CHECK.due("no page", x.flip(-1, 0), false);
        CHECK.due("status(3)", x.status(3), 4);
        CHECK.due("not kept", x.has(7), 1);
        CHECK.due("has(9)", x.has(9), 3);
        x = Check.made("field 3 poly 11 mends 1 short 2;page a;");
        x.write(0, 0, 1);
        CHECK.due("the last cell of a shortened word", x.flip(0, 4), true);
        CHECK.due("the next is none", x.flip(0, 5), false);
    }

    private static void askRefreshing() {
        FlashPages x = Check.made(SMALL.replace("short 0", "short 3") + "drifts 1;");
        CHECK.due("not written", x.refresh(0), -1);
        x.write(0, 0, 1);
        x.flip(0, 2);
        x.days(3);
        CHECK.due("refresh", x.refresh(0), 1);
        CHECK.due("level as written", x.level(0, 2, 0), 30);
        CHECK.due("level as written", x.level(0, 0, 0), 70);
        CHECK.due("days", x.page(0, 1), 0);
        CHECK.due("kept", x.has(7), 2);
        CHECK.due("its DAY", x.kept(1, 0), 3);
        CHECK.due("its PAGE", x.kept(1, 1), 0);
        CHECK.due("how many", x.kept(1, 2), 1);
        CHECK.due("refresh", x.refresh(0), 0);
        CHECK.due("kept 0", x.kept(2, 2), 0);
        CHECK.due("status(3)", x.status(3), 1);
        // Of four cells, a pair that tells a place outside.
        for (int cell = 1; cell < 4; cell++) {
            x.flip(0, 0);
            x.flip(0, cell);
            if (x.got(0, 0) == -1) {
                int acts = x.has(9);
                CHECK.due("lost", x.refresh(0), -1);
                CHECK.due("no act", x.has(9), acts);
                CHECK.due("status(3)", x.status(3), 2);
                return;
            }
            x.undo();
            x.undo();
        }
        CHECK.due("a page is lost", false, true);
    }

    /** What is GOT need not be what was written; from then on it is. */
    private static void askWrongRefreshing() {
        FlashPages x = Check.made(SMALL);
        x.write(0, 0, 1);
        x.flip(0, 5);
        x.flip(0, 6);
        CHECK.due("not TRUE", x.got(0, 3), 0);
        int data = x.got(0, 5);
        CHECK.due("refresh", x.refresh(0), 1);
        CHECK.due("TRUE now", x.got(0, 3), 1);
        CHECK.due("the same DATA", x.got(0, 5), data);
        CHECK.due("not the first", data != 1, true);
        int ones = 0;
        for (int k = 0; k < 7; k++) {
            ones += x.word(0, data, k);
        }
        CHECK.due("WANTED", x.page(0, 2), ones);
        x.undo();
        CHECK.due("WANTED again", x.page(0, 2), 3);
    }

    private static void askDays() {
        FlashPages x = Check.made(SMALL + "drifts if(bit=1 and cell<2,0-10,0);tries not all;noise 100;");
        x.write(0, 0, 1);
        CHECK.due("one is got", x.days(2), 1);
        x.write(1, 0, 0);
        CHECK.due("both are written, one is got", x.days(1), 1);
        CHECK.due("DAY", x.has(6), 3);
        CHECK.due("days of the second", x.page(1, 1), 1);
        CHECK.due("no draws", x.has(10), 1);
        for (int n : new int[] {0, -1, 41, Integer.MAX_VALUE, Integer.MIN_VALUE}) {
            CHECK.due("days(" + n + ")", x.days(n), -1);
            CHECK.due("chance(" + n + ")", x.chance(n), -1);
        }
        CHECK.due("status(2)", x.status(2), 10);
        CHECK.due("has(9)", x.has(9), 4);
        CHECK.due("40 days", x.days(40), 1);
        CHECK.due("one act", x.has(9), 5);
        CHECK.due("undo all 40", x.undo(), true);
        CHECK.due("DAY", x.has(6), 3);
        CHECK.due("level", x.level(0, 0, 0), 40);
        FlashPages y = Check.made("field 3 poly 11 mends 1 short 0;");
        CHECK.due("no pages", y.days(40), 0);
        CHECK.due("no pages by the seed", y.chance(40), 0);
        CHECK.due("DAY", y.has(6), 80);
        CHECK.due("no draws", y.has(10), 1);
    }

    private static int next(int seed) {
        return (int) ((1103515245L * seed + 12345L) % (1L << 31));
    }

    private static void askChance() {
        FlashPages x = Check.made(SMALL + "noise 40;drifts 1;");
        x.seed(5);
        x.write(1, 0, 9);
        int seed = 5;
        int[] levels = new int[7];
        for (int k = 0; k < 7; k++) {
            levels[k] = x.level(1, k, 0);
        }
        int noises = 0;
        for (int day = 0; day < 30; day++) {
            for (int k = 0; k < 7; k++) {
                levels[k] = Math.min(99, levels[k] + 1);
            }
            seed = next(seed);
            if (seed / 64 % 100 < 40) {
                seed = next(seed);
                int cell = seed / 64 % 7;
                levels[cell] = 99 - levels[cell];
                noises++;
            }
        }
        CHECK.due("chance(30)", x.chance(30), noises);
        CHECK.due("some noise", noises > 3 && noises < 27, true);
        CHECK.due("the seed", x.has(10), seed);
        for (int k = 0; k < 7; k++) {
            CHECK.due("level of " + k, x.level(1, k, 0), levels[k]);
        }
        CHECK.due("one act", x.has(9), 2);
        CHECK.due("undo", x.undo(), true);
        CHECK.due("the seed goes on", x.has(10), seed);
        CHECK.due("DAY", x.has(6), 0);
        x = Check.made(SMALL + "noise 0;");
        x.write(0, 0, 1);
        CHECK.due("no noise", x.chance(1), 0);
        CHECK.due("but a draw", x.has(10), next(1));
        x = Check.made(SMALL + "noise 100;");
        x.write(0, 0, 1);
        x.write(1, 0, 1);
        CHECK.due("noise each time", x.chance(3), 6);
        CHECK.due("by two draws each", x.has(10), next(next(next(next(next(next(next(next(next(next(next(next(1)))))))))))));
        x.seed(Integer.MAX_VALUE);
        x.chance(1);
        CHECK.due("of the greatest seed", x.has(10), next(next(next(next(Integer.MAX_VALUE)))));
    }

    private static void askUndoing() {
        FlashPages x = Check.made(SMALL);
        CHECK.due("nothing yet", x.undo(), false);
        CHECK.due("status(4)", x.status(4), 1);
        x.write(0, 0, 1);
        for (int i = 0; i < 25; i++) {
            x.days(1);
        }
        CHECK.due("20 at most", x.has(9), 20);
        for (int i = 1; i <= 20; i++) {
            CHECK.due("undo " + i, x.undo(), true);
            CHECK.due("DAY", x.has(6), 25 - i);
            CHECK.due("days of the page", x.page(0, 1), 25 - i);
            CHECK.due("has(9)", x.has(9), 20 - i);
        }
        CHECK.due("no more", x.undo(), false);
        CHECK.due("DAY", x.has(6), 5);
        CHECK.due("status(4)", x.status(4), 2);
        x.days(2);
        CHECK.due("an act again", x.has(9), 1);
        x.undo();
        CHECK.due("DAY", x.has(6), 5);
        x.seed(9);
        x.write(1, 0, 2);
        x.erase(0);
        x.flip(1, 1);
        x.undo();
        x.undo();
        x.undo();
        CHECK.due("page 0 is written", x.page(0, 0), 1);
        CHECK.due("page 1 is not", x.page(1, 0), 0);
        CHECK.due("the seed stays", x.has(10), 9);
    }

    private static void askSeed() {
        FlashPages x = new FlashPages();
        CHECK.due("seed(0)", x.seed(0), true);
        CHECK.due("has(10)", x.has(10), 0);
        CHECK.due("seed(max)", x.seed(Integer.MAX_VALUE), true);
        CHECK.due("has(10)", x.has(10), Integer.MAX_VALUE);
        CHECK.due("seed(-1)", x.seed(-1), false);
        CHECK.due("has(10)", x.has(10), Integer.MAX_VALUE);
        CHECK.due("status(5)", x.status(5), 1);
        CHECK.due("chip", Check.chip(x, SMALL), 3);
        CHECK.due("the seed stays", x.has(10), Integer.MAX_VALUE);
        CHECK.due("no act", x.has(9), 0);
    }

    private static void askKept() {
        FlashPages x = Check.made(SMALL);
        CHECK.due("none", x.kept(0, 0), -1);
        for (int i = 0; i < 45; i++) {
            x.write(i % 2, 0, i % 16);
            x.days(1);
            CHECK.due("has(7)", x.has(7), Math.min(40, i + 1));
        }
        for (int k = 0; k < 40; k++) {
            CHECK.due("DAY of " + k, x.kept(k, 0), k + 5);
            CHECK.due("PAGE of " + k, x.kept(k, 1), (k + 5) % 2);
            CHECK.due("how many of " + k, x.kept(k, 2), 0);
        }
        CHECK.due("kept(40,0)", x.kept(40, 0), -1);
        CHECK.due("kept(-1,0)", x.kept(-1, 0), -1);
        CHECK.due("kept(0,3)", x.kept(0, 3), -1);
        CHECK.due("kept(0,-1)", x.kept(0, -1), -1);
    }

    /** What is undone is not kept any more, and what it had pushed out is told again. */
    private static void askKeptUndone() {
        FlashPages x = Check.made(SMALL);
        for (int i = 0; i < 70; i++) {
            x.days(1);
            x.write(0, 0, 1);
        }
        for (int round = 0; round < 3; round++) {
            for (int i = 0; i < 20; i++) {
                x.write(1, 0, 1);
            }
            for (int i = 0; i < 20; i++) {
                x.undo();
            }
            for (int k = 0; k < 40; k++) {
                CHECK.due("DAY of " + k, x.kept(k, 0), 31 + k);
                CHECK.due("PAGE of " + k, x.kept(k, 1), 0);
            }
        }
        FlashPages y = Check.made(SMALL);
        y.write(0, 0, 1);
        y.write(1, 0, 1);
        y.undo();
        CHECK.due("has(7)", y.has(7), 1);
        CHECK.due("kept(1,0)", y.kept(1, 0), -1);
    }
}
