import java.math.BigInteger;

/** The boundary cases of acts (Terms II) and of the promises 27 to 35, sentence by sentence. */
public final class BoundsActsTest {
    private static final int[] NO_PAGES = {-1, 3, 6, Integer.MIN_VALUE, Integer.MAX_VALUE};
    private static final int[] NO_CELLS = {-1, 7, 63, Integer.MIN_VALUE, Integer.MAX_VALUE};
    private static final int[] NO_DAYS = {0, -1, 41, Integer.MIN_VALUE, Integer.MAX_VALUE};
    private static final String CHIP = Bounds.SMALL + "page a;page b;";
    private static final Bounds B = new Bounds();

    public static void main(String[] args) {
        askDraw();
        askNoise();
        askPageByPage();
        askFortyTold();
        askTwentyUndone();
        askWhatIsAnAct();
        askWrite();
        askWriteRefused();
        askErase();
        askEraseRefused();
        askFlip();
        askFlipRefused();
        askRefresh();
        askRefreshRefused();
        askDays();
        askDaysRefused();
        askChance();
        askChanceRefused();
        askUndo();
        askUndoRefused();
        askSeed();
        askSeedRefused();
        askKept();
        B.finish();
    }

    private static FlashPages onDay(int day, String text) {
        FlashPages x = Check.made(text);
        for (int left = day; left > 0; left -= 40) {
            x.days(Math.min(40, left));
        }
        return x;
    }

    // ---- draws

    private static int next(int seed) {
        BigInteger product = BigInteger.valueOf(1103515245).multiply(BigInteger.valueOf(seed)).add(BigInteger.valueOf(12345));
        return product.mod(BigInteger.TWO.pow(31)).intValueExact();
    }

    private static void askDraw() {
        B.of(Bounds.TERMS_II, "x (the seed) becomes (1103515245 x + 12345) mod 2 to the 31; floor(x / 64) mod m.");
        FlashPages x = Check.made(CHIP + "noise 100;");
        x.write(0, 0, 1);
        for (int seed : new int[] {0, 1, 2, 63, 64, 1 << 30, (1 << 30) - 1, Integer.MAX_VALUE - 1, Integer.MAX_VALUE}) {
            B.due("seed(" + seed + ")", x.seed(seed), true);
            int[] levels = new int[7];
            for (int k = 0; k < 7; k++) {
                levels[k] = x.level(0, k, 0);
            }
            B.due("chance(1)", x.chance(1), 1);
            int last = next(next(seed));
            B.due("the seed behind " + seed, x.has(10), last);
            for (int k = 0; k < 7; k++) {
                int due = k == last / 64 % 7 ? 99 - levels[k] : levels[k];
                B.due("level of " + k + " behind " + seed, x.level(0, k, 0), due);
            }
        }
    }

    private static void askNoise() {
        B.of(Bounds.TERMS_II, "there is a DRAW of 100: below noise a DRAW of the cells: its level is 99 less that.");
        int drawn = next(1) / 64 % 100;
        for (int noise : new int[] {0, drawn, drawn + 1, 100}) {
            FlashPages x = Check.made(CHIP + "noise " + noise + ";");
            x.write(0, 0, 1);
            boolean isNoisy = drawn < noise;
            B.due("a DRAW of " + drawn + " by noise " + noise, x.chance(1), isNoisy ? 1 : 0);
            B.due("the seed", x.has(10), isNoisy ? next(next(1)) : next(1));
        }
    }

    private static void askPageByPage() {
        B.of(Bounds.TERMS_II, "BY THE SEED, PAGE by PAGE that is written, behind that");
        FlashPages x = Check.made(CHIP + "page c;noise 100;drifts 1;");
        B.due("none written", x.chance(1), 0);
        B.due("no DRAW", x.has(10), 1);
        x.write(2, 0, 0);
        x.write(0, 0, 0);
        B.due("two written", x.chance(1), 2);
        int first = next(next(1)) / 64 % 7;
        int second = next(next(next(next(1)))) / 64 % 7;
        for (int k = 0; k < 7; k++) {
            B.due("page 0, cell " + k, x.level(0, k, 0), k == first ? 68 : 31);
            B.due("page 2, cell " + k, x.level(2, k, 0), k == second ? 68 : 31);
        }
        B.due("the seed", x.has(10), next(next(next(next(1)))));
    }

    // ---- what is kept, what can be undone

    private static void askFortyTold() {
        B.of(Bounds.TERMS_II, "KEPT is each writing, REFRESHING: DAY, PAGE, 0 for one that was written, else how many cells were MENDED (the last 40 are told).");
        for (int count : new int[] {0, 1, 39, 40, 41, 81}) {
            FlashPages x = Check.made(CHIP);
            for (int i = 0; i < count; i++) {
                x.write(i % 2, 0, 1);
                x.days(1);
            }
            int told = Math.min(count, 40);
            B.due("has(7) of " + count, x.has(7), told);
            B.due("the first of " + count, x.kept(0, 0), count == 0 ? -1 : count - told);
            B.due("the last of " + count, x.kept(told - 1, 0), count == 0 ? -1 : count - 1);
            B.due("its page", x.kept(told - 1, 1), count == 0 ? -1 : (count - 1) % 2);
            B.due("none behind", x.kept(told, 0), -1);
        }
        FlashPages x = Check.made(CHIP);
        x.write(1, 0, 1);
        x.flip(1, 6);
        x.days(2);
        x.refresh(1);
        x.erase(1);
        B.due("flips, days, erasing are not", x.has(7), 2);
        int[] due = {2, 1, 1};
        for (int what = 0; what < 3; what++) {
            B.due("kept(1, " + what + ")", x.kept(1, what), due[what]);
        }
    }

    private static void askTwentyUndone() {
        B.of(Bounds.TERMS_II, "The last 20 can be undone.");
        for (int count : new int[] {0, 1, 19, 20, 21, 45}) {
            FlashPages x = Check.made(CHIP);
            x.write(0, 0, 1);
            Bounds.put(x, Check.octets(x));
            x.on();
            for (int i = 0; i < count; i++) {
                x.days(1);
            }
            int most = Math.min(count, 20);
            B.due("has(9) of " + count, x.has(9), most);
            for (int i = 0; i < most; i++) {
                B.due("undo() of " + count, x.undo(), true);
            }
            B.due("DAY of " + count, x.has(6), count - most);
            B.due("its DAYS", x.page(0, 1), count - most);
            B.due("no more of " + count, x.undo(), false);
            B.due("DAY of " + count, x.has(6), count - most);
            x.days(2);
            B.due("one again", x.has(9), 1);
            B.due("undo() of it", x.undo(), true);
            B.due("DAY of " + count, x.has(6), count - most);
        }
    }

    private static void askWhatIsAnAct() {
        B.of(Bounds.TERMS_II, "ACTS: a PAGE is written; one is erased (it is not written any more); a cell is flipped (its level is 99 less that); a PAGE is REFRESHED: what is GOT of it is written anew; DAYS, by the seed.");
        FlashPages x = Check.made(CHIP);
        x.write(0, 0, 1);
        B.due("a writing", x.has(9), 1);
        x.flip(0, 0);
        B.due("a flip", x.has(9), 2);
        x.refresh(0);
        B.due("a refreshing", x.has(9), 3);
        x.days(40);
        B.due("40 DAYS", x.has(9), 4);
        x.chance(40);
        B.due("40 DAYS by the seed", x.has(9), 5);
        x.erase(0);
        B.due("an erasing", x.has(9), 6);
        x.seed(5);
        Bounds.put(x, 50, 3);
        x.meet();
        x.image();
        x.got(0, 0);
        B.due("no seed, no meet(), no image()", x.has(9), 6);
        int[] days = {80, 40, 0, 0, 0, 0};
        int[] written = {1, 1, 1, 1, 1, 0};
        for (int i = 0; i < 6; i++) {
            B.due("undo()", x.undo(), true);
            B.due("DAY", x.has(6), days[i]);
            B.due("written", x.page(0, 0), written[i]);
        }
    }

    // ---- the calls

    private static void askWrite() {
        B.of(27, "A PAGE is written by DATA (as in word()): true");
        FlashPages x = Check.made(CHIP);
        for (int data : new int[] {0, 1, 14, 15}) {
            for (int page = 0; page < 2; page++) {
                B.due("write(" + page + ", 0, " + data + ")", x.write(page, 0, data), true);
                B.due("DATA", x.got(page, 5), data);
                B.due("its DAYS", x.page(page, 1), 0);
            }
            x.days(1);
        }
        x = Check.made("field 6 poly 67 mends 1 short 0;page a;");
        B.due("the greatest DATA", x.write(0, (1 << 27) - 1, (1 << 30) - 1), true);
        B.due("WANTED", x.page(0, 2), 63);
    }

    private static void askWriteRefused() {
        B.of(27, "false, refused (3), when there are none such.");
        for (int page : NO_PAGES) {
            B.refused("write(" + page + ", 0, 1)", 3, 0, Bounds::scene, x -> Bounds.number(x.write(page, 0, 1)));
        }
        for (int low : new int[] {16, -1, 1 << 30, Integer.MIN_VALUE, Integer.MAX_VALUE}) {
            B.refused("write(0, 0, " + low + ")", 3, 0, Bounds::scene, x -> Bounds.number(x.write(0, 0, low)));
        }
        for (int high : new int[] {1, -1, Integer.MIN_VALUE, Integer.MAX_VALUE}) {
            B.refused("write(1, " + high + ", 0)", 3, 0, Bounds::scene, x -> Bounds.number(x.write(1, high, 0)));
        }
        B.refused("write(0, 0, 0) without a chip", 3, 0, FlashPages::new, x -> Bounds.number(x.write(0, 0, 0)));
    }

    private static void askErase() {
        B.of(28, "A PAGE is erased: true");
        FlashPages x = Check.made(CHIP);
        x.write(0, 0, 15);
        x.write(1, 0, 15);
        B.due("erase(0)", x.erase(0), true);
        B.due("page(0, 0)", x.page(0, 0), 0);
        B.due("the other one stays", x.page(1, 0), 1);
        B.due("has(5)", x.has(5), 1);
        B.due("erase(1)", x.erase(1), true);
        B.due("has(5)", x.has(5), 0);
        B.due("it can be written", x.write(0, 0, 2), true);
        B.due("page(0, 2)", x.page(0, 2), 3);
    }

    private static void askEraseRefused() {
        B.of(28, "false, refused (3), when it is not written.");
        B.refused("erase(1)", 3, 0, Bounds::scene, x -> Bounds.number(x.erase(1)));
        for (int page : NO_PAGES) {
            B.refused("erase(" + page + ")", 3, 0, Bounds::scene, x -> Bounds.number(x.erase(page)));
        }
        B.refused("erase(0) without a chip", 3, 0, FlashPages::new, x -> Bounds.number(x.erase(0)));
        FlashPages x = Check.made(CHIP);
        x.write(0, 0, 1);
        x.erase(0);
        B.due("erase(0) twice", x.erase(0), false);
    }

    private static void askFlip() {
        B.of(29, "A cell of a PAGE is flipped: true");
        FlashPages x = Check.made(CHIP + "high 99;low 0;");
        x.write(0, 0, 1);
        for (int cell : new int[] {0, 6}) {
            int level = x.level(0, cell, 0);
            B.due("flip(0, " + cell + ")", x.flip(0, cell), true);
            B.due("99 less that", x.level(0, cell, 0), 99 - level);
            B.due("the next stays", x.level(0, 3, 0), 99);
        }
        x = Check.made(CHIP + "high 51;low 49;");
        x.write(0, 0, 1);
        x.flip(0, 0);
        B.due("51", x.level(0, 0, 0), 48);
        x.flip(0, 2);
        B.due("49", x.level(0, 2, 0), 50);
    }

    private static void askFlipRefused() {
        B.of(29, "false, refused (3), when it is not written, or there is none such.");
        B.refused("flip(1, 0)", 3, 0, Bounds::scene, x -> Bounds.number(x.flip(1, 0)));
        for (int page : NO_PAGES) {
            B.refused("flip(" + page + ", 0)", 3, 0, Bounds::scene, x -> Bounds.number(x.flip(page, 0)));
        }
        for (int cell : NO_CELLS) {
            B.refused("flip(0, " + cell + ")", 3, 0, Bounds::scene, x -> Bounds.number(x.flip(0, cell)));
        }
        B.refused("flip(0, 0) without a chip", 3, 0, FlashPages::new, x -> Bounds.number(x.flip(0, 0)));
        FlashPages x = Check.made(Bounds.TINY + "page a;");
        x.write(0, 0, 1);
        B.due("the last of 4 cells", x.flip(0, 3), true);
        B.due("the next", x.flip(0, 4), false);
    }

    private static void askRefresh() {
        B.of(30, "A PAGE is REFRESHED: how many cells were MENDED");
        for (int wrong = 0; wrong <= 5; wrong++) {
            FlashPages x = Check.made("field 6 poly 67 mends 5 short 3;page a;drifts if(bit=1,0-1,1);");
            x.write(0, 7, 77);
            for (int cell = 0; cell < wrong; cell++) {
                x.flip(0, 11 * cell);
            }
            x.days(3);
            B.due("refresh(0) with " + wrong, x.refresh(0), wrong);
            B.due("its DAYS", x.page(0, 1), 0);
            B.due("KEPT", x.kept(1, 2), wrong);
            B.due("on DAY", x.kept(1, 0), 3);
            B.due("DATA", x.got(0, 5), 77);
            B.due("DATA above", x.got(0, 6), 7);
            B.due("high", x.ones(0, 70), x.page(0, 2));
            B.due("low", x.ones(0, 31), x.page(0, 2));
        }
    }

    /** A page that is LOST, another that is not written. */
    private static FlashPages lost() {
        FlashPages x = Check.made(Bounds.TINY + "page a;page b;page c;tries not all;");
        x.write(0, 0, 0);
        x.flip(0, 0);
        x.flip(0, 2);
        return x;
    }

    private static void askRefreshRefused() {
        B.of(30, "NONE, refused (3), when it is not written, or is LOST.");
        B.due("LOST", lost().got(0, 4), 3);
        B.refused("refresh(0), LOST", 3, -1, BoundsActsTest::lost, x -> x.refresh(0));
        B.refused("refresh(1)", 3, -1, Bounds::scene, x -> x.refresh(1));
        for (int page : NO_PAGES) {
            B.refused("refresh(" + page + ")", 3, -1, Bounds::scene, x -> x.refresh(page));
        }
        B.refused("refresh(0) without a chip", 3, -1, FlashPages::new, x -> x.refresh(0));
    }

    private static void askDays() {
        B.of(31, "n DAYS go by (1 .. 40), without DRAWS: how many PAGES are GOT and TRUE then");
        for (int n : new int[] {1, 2, 39, 40}) {
            FlashPages x = Check.made(CHIP + "page c;page d;noise 100;drifts if(page=3 and cell<2 and age=" + (n - 1) + ",0-60,0);");
            x.write(0, 0, 1);
            x.write(1, 0, 1);
            x.write(3, 0, 1);
            x.flip(1, 5);
            x.flip(1, 6);
            B.due("days(" + n + "): one is not TRUE, one lost its cells, one is not written", x.days(n), 1);
            B.due("DAY", x.has(6), n);
            B.due("no DRAWS", x.has(10), 1);
        }
        FlashPages x = Check.made(CHIP);
        B.due("none is written", x.days(1), 0);
        x.write(0, 0, 1);
        x.write(1, 0, 1);
        B.due("both", x.days(1), 2);
        B.due("without PAGES", Check.made(Bounds.SMALL).days(40), 0);
    }

    private static FlashPages late() {
        FlashPages x = onDay(979, Bounds.SMALL + "page a;page b;page c;drifts 0-1;");
        x.write(0, 0, 1);
        return x;
    }

    private static FlashPages last() {
        FlashPages x = onDay(999, Bounds.SMALL + "page a;");
        x.write(0, 0, 1);
        return x;
    }

    private static void askDaysRefused() {
        B.of(31, "NONE, refused (2), when it can't be (beyond DAY 999, without a chip).");
        for (int n : NO_DAYS) {
            B.refused("days(" + n + ")", 2, -1, Bounds::scene, x -> x.days(n));
        }
        B.refused("days(21) on 979", 2, -1, BoundsActsTest::late, x -> x.days(21));
        B.refused("days(40) on 979", 2, -1, BoundsActsTest::late, x -> x.days(40));
        B.refused("days(1) on 999", 2, -1, BoundsActsTest::last, x -> x.days(1));
        B.refused("days(1) without a chip", 2, -1, FlashPages::new, x -> x.days(1));
        FlashPages x = late();
        B.due("days(20) on 979", x.days(20), 1);
        B.due("DAY", x.has(6), 999);
    }

    private static void askChance() {
        B.of(32, "n DAYS by the seed (1 .. 40), one ACT: how many times there was noise");
        for (int n : new int[] {1, 2, 39, 40}) {
            FlashPages x = Check.made(CHIP + "noise 100;");
            x.write(0, 0, 1);
            x.write(1, 0, 1);
            B.due("chance(" + n + ")", x.chance(n), 2 * n);
            B.due("DAY", x.has(6), n);
            B.due("one ACT", x.has(9), 3);
            B.due("undo()", x.undo(), true);
            B.due("DAY", x.has(6), 0);
            B.due("as it was", x.span(0, 0), 31);
        }
    }

    private static void askChanceRefused() {
        B.of(32, "NONE, refused (2), when it can't be.");
        for (int n : NO_DAYS) {
            B.refused("chance(" + n + ")", 2, -1, Bounds::scene, x -> x.chance(n));
        }
        B.refused("chance(21) on 979", 2, -1, BoundsActsTest::late, x -> x.chance(21));
        B.refused("chance(1) on 999", 2, -1, BoundsActsTest::last, x -> x.chance(1));
        B.refused("chance(1) without a chip", 2, -1, FlashPages::new, x -> x.chance(1));
        FlashPages x = late();
        B.due("chance(20) on 979", x.chance(20), 0);
        B.due("DAY", x.has(6), 999);
    }

    private static void askUndo() {
        B.of(33, "The latest ACT is undone: all is as it was ahead of it (but the seed): true");
        FlashPages x = Bounds.scene();
        x.end(0);
        int[] before = Check.octets(x);
        int kept = x.has(7);
        for (int act = 0; act < 6; act++) {
            switch (act) {
                case 0: x.write(1, 0, 3); break;
                case 1: x.erase(2); break;
                case 2: x.flip(2, 6); break;
                case 3: x.refresh(2); break;
                case 4: x.days(9); break;
                default: x.chance(9); break;
            }
            int seed = x.has(10);
            B.due("undo() of act " + act, x.undo(), true);
            int[] behind = Check.octets(x);
            B.due("the image behind act " + act, java.util.Arrays.equals(before, behind), true);
            B.due("KEPT behind act " + act, x.has(7), kept);
            B.due("the seed behind act " + act, x.has(10), seed);
            B.due("rows MET stay", x.has(8), 2);
        }
        // What was pushed out of the 40 is told again.
        FlashPages y = Check.made(CHIP);
        for (int i = 0; i < 60; i++) {
            y.days(1);
            y.write(0, 0, 1);
        }
        B.due("the first told", y.kept(0, 0), 21);
        for (int i = 0; i < 20; i++) {
            y.undo();
        }
        B.due("has(7)", y.has(7), 40);
        B.due("the first told then", y.kept(0, 0), 11);
        B.due("the last told then", y.kept(39, 0), 50);
    }

    private static FlashPages undone() {
        FlashPages x = Bounds.scene();
        for (int i = 0; i < 7; i++) {
            x.undo();
        }
        return x;
    }

    private static void askUndoRefused() {
        B.of(33, "false, refused (4), when none can be.");
        B.due("none is left", undone().has(9), 0);
        B.refused("undo() of none left", 4, 0, BoundsActsTest::undone, x -> Bounds.number(x.undo()));
        B.refused("undo() without a chip", 4, 0, FlashPages::new, x -> Bounds.number(x.undo()));
        B.refused("undo() behind a chip", 4, 0, () -> Check.made(CHIP), x -> Bounds.number(x.undo()));
    }

    private static void askSeed() {
        B.of(34, "The seed: true");
        FlashPages x = new FlashPages();
        for (int seed : new int[] {0, 1, Integer.MAX_VALUE}) {
            B.due("seed(" + seed + ")", x.seed(seed), true);
            B.due("has(10)", x.has(10), seed);
        }
        x.seed(9);
        B.due("chip()", Check.chip(x, CHIP), 3);
        B.due("the seed stays", x.has(10), 9);
    }

    private static void askSeedRefused() {
        B.of(34, "false, refused (5), when it is below 0.");
        for (int seed : new int[] {-1, -2, Integer.MIN_VALUE}) {
            B.refused("seed(" + seed + ")", 5, 0, Bounds::scene, x -> Bounds.number(x.seed(seed)));
        }
        B.refused("seed(-1) without a chip", 5, 0, FlashPages::new, x -> Bounds.number(x.seed(-1)));
    }

    private static void askKept() {
        B.of(35, "Of what is told as KEPT, the k-th from the oldest on: 0 DAY, 1 PAGE, 2 how many. NONE when there is none such, or for others.");
        FlashPages x = Check.made(CHIP);
        x.write(1, 0, 1);
        x.days(5);
        x.flip(1, 3);
        x.refresh(1);
        int[][] due = {{0, 1, 0}, {5, 1, 1}};
        for (int k = 0; k < 2; k++) {
            for (int what = 0; what < 3; what++) {
                B.due("kept(" + k + ", " + what + ")", x.kept(k, what), due[k][what]);
            }
            for (int what : new int[] {-1, 3, Integer.MIN_VALUE, Integer.MAX_VALUE}) {
                B.due("kept(" + k + ", " + what + ")", x.kept(k, what), -1);
            }
        }
        for (int k : new int[] {-1, 2, 40, Integer.MIN_VALUE, Integer.MAX_VALUE}) {
            B.due("kept(" + k + ", 0)", x.kept(k, 0), -1);
        }
        B.due("without a chip", new FlashPages().kept(0, 0), -1);
    }
}
