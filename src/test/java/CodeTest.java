/** Promises 6 and 8 to 12: the field, the generator, words, weights, patterns. */
public final class CodeTest {
    private static final Check CHECK = new Check();

    public static void main(String[] args) {
        for (int m = 3; m <= 6; m++) {
            for (int poly : Chips.PRIMITIVE[m - 3]) {
                askField(m, poly);
                for (int t = 1; t <= 5; t++) {
                    askGenerator(m, poly, t);
                }
            }
        }
        askWords();
        askWeights();
        askPatterns();
        askWrongInputs();
        CHECK.finish();
    }

    private static String text(int m, int poly, int t, int s) {
        return "field " + m + " poly " + poly + " mends " + t + " short " + s + ";page a;";
    }

    private static Model model(int m, int poly, int t, int s) {
        Model.Told told = new Model.Told();
        told.m = m;
        told.poly = poly;
        told.t = t;
        told.s = s;
        told.names.add("a");
        return new Model(told);
    }

    private static void askField(int m, int poly) {
        FlashPages x = Check.made(text(m, poly, 1, 1));
        Model model = model(m, poly, 1, 1);
        String of = m + "/" + poly + " ";
        for (int k = 0; k < model.n; k++) {
            CHECK.due(of + "field(" + k + ",0)", x.field(k, 0), model.power(k));
            CHECK.due(of + "field(" + k + ",2)", x.field(k, 2), model.minimal(k));
            CHECK.due(of + "field(" + (k + 1) + ",1)", x.field(k + 1, 1), model.log(k + 1));
        }
        CHECK.due(of + "minimal of a", x.field(1, 2), poly);
        CHECK.due(of + "minimal of 1", x.field(0, 2), 3);
        for (int k : new int[] {-1, model.n, Integer.MIN_VALUE, Integer.MAX_VALUE}) {
            CHECK.due(of + "field(" + k + ",0)", x.field(k, 0), -1);
            CHECK.due(of + "field(" + k + ",2)", x.field(k, 2), -1);
        }
        for (int k : new int[] {-1, 0, model.n + 1, Integer.MIN_VALUE, Integer.MAX_VALUE}) {
            CHECK.due(of + "field(" + k + ",1)", x.field(k, 1), -1);
        }
        CHECK.due(of + "field(1,3)", x.field(1, 3), -1);
        CHECK.due(of + "field(1,-1)", x.field(1, -1), -1);
    }

    private static void askGenerator(int m, int poly, int t) {
        FlashPages x = new FlashPages();
        if (Check.chip(x, text(m, poly, t, 0)) < 0) {
            return;
        }
        Model model = model(m, poly, t, 0);
        for (int k = 0; k < 63; k++) {
            boolean due = k < model.generator.length && model.generator[k];
            CHECK.due(m + "/" + poly + "/" + t + " generator(" + k + ")", x.generator(k), due ? 1 : 0);
        }
        CHECK.due("has(1)", x.has(1), model.r);
        CHECK.due("generator(-1)", x.generator(-1), -1);
        CHECK.due("generator(63)", x.generator(63), -1);
    }

    private static void askWords() {
        int[][] codes = {{3, 13, 1, 2}, {4, 19, 2, 3}, {5, 41, 3, 0}, {6, 91, 1, 0}, {6, 67, 1, 20}, {6, 103, 5, 4}, {6, 67, 4, 9}};
        for (int[] c : codes) {
            FlashPages x = Check.made(text(c[0], c[1], c[2], c[3]));
            Model model = model(c[0], c[1], c[2], c[3]);
            long all = (1L << model.dataBits) - 1;
            for (long data : new long[] {0, 1, all, all / 3, all / 2, all - 1, all / 7}) {
                int high = (int) (data >> 30);
                int low = (int) (data & (1 << 30) - 1);
                boolean[] word = model.word(data);
                for (int k = 0; k < model.cells; k++) {
                    CHECK.due(x.has(0) + " word " + data + " " + k, x.word(high, low, k), word[k] ? 1 : 0);
                }
                CHECK.due("word behind it", x.word(high, low, model.cells), -1);
                CHECK.due("word ahead of it", x.word(high, low, -1), -1);
            }
            long more = all + 1;
            CHECK.due("a bit more", x.word((int) (more >> 30), (int) (more & (1 << 30) - 1), 0), -1);
            CHECK.due("low 2 to the 30", x.word(0, 1 << 30, 0), -1);
            CHECK.due("low below 0", x.word(0, -1, 0), -1);
            CHECK.due("high below 0", x.word(-1, 0, 0), -1);
            CHECK.due("high most", x.word(Integer.MAX_VALUE, 0, 0), -1);
        }
    }

    private static void askWeights() {
        int[][] codes = {{3, 11, 1, 0}, {3, 11, 3, 0}, {4, 19, 1, 0}, {4, 25, 2, 6}, {5, 37, 4, 3}, {5, 37, 3, 4}, {6, 67, 5, 24}};
        FlashPages x = new FlashPages();
        for (int[] c : codes) {
            Check.chip(x, text(c[0], c[1], c[2], c[3]));
            Model model = model(c[0], c[1], c[2], c[3]);
            for (int ones = -1; ones <= 64; ones++) {
                CHECK.due(text(c[0], c[1], c[2], c[3]) + " weight(" + ones + ")", x.weight(ones), model.weight(ones));
            }
        }
        Check.chip(x, text(5, 37, 3, 3));
        CHECK.due("DATA of 13 bits", x.has(3), 13);
        CHECK.due("their weight(0)", x.weight(0), -1);
        // What was counted of one chip is not told of the next.
        Check.chip(x, text(3, 11, 1, 0));
        CHECK.due("weight(3)", x.weight(3), 7);
        Check.chip(x, text(3, 11, 1, 1));
        CHECK.due("weight(3)", x.weight(3), 4);
        Check.chip(x, text(3, 11, 3, 0));
        CHECK.due("weight(3)", x.weight(3), 0);
        CHECK.due("weight(7)", x.weight(7), 1);
    }

    private static void askPatterns() {
        int[][] codes = {{3, 11, 1, 0}, {3, 13, 1, 3}, {3, 11, 2, 0}, {4, 19, 1, 4}, {4, 25, 2, 0}, {4, 19, 2, 6}, {4, 19, 5, 0},
            {5, 37, 1, 9}, {5, 61, 2, 0}, {5, 37, 2, 11}, {5, 47, 3, 4}, {6, 67, 2, 40}, {6, 91, 1, 30}};
        FlashPages x = new FlashPages();
        for (int[] c : codes) {
            Check.chip(x, text(c[0], c[1], c[2], c[3]));
            Model model = model(c[0], c[1], c[2], c[3]);
            for (int n = 1; n <= 3; n++) {
                for (int what = 0; what < 3; what++) {
                    String of = text(c[0], c[1], c[2], c[3]) + " patterns(" + n + "," + what + ")";
                    CHECK.due(of, x.patterns(n, what), model.patterns(n, what));
                }
            }
        }
        Check.chip(x, text(6, 67, 2, 0));
        CHECK.due("all three", x.patterns(3, 0) + x.patterns(3, 1) + x.patterns(3, 2), 63 * 62 * 61 / 6);
        CHECK.due("none mended", x.patterns(3, 0), 0);
        Check.chip(x, text(4, 19, 1, 4));
        CHECK.due("of the next chip", x.patterns(3, 1), model(4, 19, 1, 4).patterns(3, 1));
    }

    private static void askWrongInputs() {
        FlashPages x = Check.made(text(3, 11, 1, 0));
        for (int n : new int[] {-1, 0, 4, Integer.MAX_VALUE}) {
            CHECK.due("patterns(" + n + ",0)", x.patterns(n, 0), -1);
        }
        CHECK.due("patterns(1,-1)", x.patterns(1, -1), -1);
        CHECK.due("patterns(1,3)", x.patterns(1, 3), -1);
        FlashPages y = new FlashPages();
        CHECK.due("no chip, field", y.field(0, 0), -1);
        CHECK.due("no chip, word", y.word(0, 0, 0), -1);
        CHECK.due("no chip, weight", y.weight(0), -1);
        CHECK.due("no chip, patterns", y.patterns(1, 0), -1);
    }
}
