/** The boundary cases of the field and the code (Terms II) and of the promises 8 to 12, sentence by sentence. */
public final class BoundsCodeTest {
    private static final int[] FAR = {Integer.MIN_VALUE, -2, Integer.MAX_VALUE};
    private static final Bounds B = new Bounds();

    public static void main(String[] args) {
        askElements();
        askPrimitive();
        askMinimal();
        askGeneratorRoots();
        askSizes();
        askWordShape();
        askField();
        askFieldOthers();
        askGenerator();
        askWord();
        askWordLimits();
        askWeight();
        askWeightLimits();
        askPatternKinds();
        askPatternLimits();
        B.finish();
    }

    private static void askElements() {
        B.of(Bounds.TERMS_II, "Elements of THE FIELD are numbers below 2 to the m (field tells m), added bit by bit, multiplied as polynomials modulo poly; a is the element 2.");
        for (int m = 3; m <= 6; m++) {
            FlashPages x = Check.made("field " + m + " poly " + Chips.PRIMITIVE[m - 3][0] + " mends 1 short 0;");
            B.due("a", x.field(1, 0), 2);
            B.due("a to the m, the first that poly makes less", x.field(m, 0), Chips.PRIMITIVE[m - 3][0] ^ 1 << m);
            boolean[] seen = new boolean[1 << m];
            for (int k = 0; k < (1 << m) - 1; k++) {
                int element = x.field(k, 0);
                B.due("below 2 to the m", element > 0 && element < 1 << m && !seen[element], true);
                seen[element & (1 << m) - 1] = true;
            }
        }
    }

    private static void askPrimitive() {
        B.of(Bounds.TERMS_II, "a to the k is 1 for no k from 1 to N - 1, N being 2 to the m less 1, and for N.");
        for (int m = 3; m <= 6; m++) {
            for (int poly : Chips.PRIMITIVE[m - 3]) {
                FlashPages x = Check.made("field " + m + " poly " + poly + " mends 1 short 0;");
                int n = x.has(0);
                B.due("N", n, (1 << m) - 1);
                int last = x.field(n - 1, 0);
                int next = last << 1 >> m == 1 ? last << 1 ^ poly : last << 1;
                B.due("a to the N", next, 1);
                for (int k = 1; k < n; k++) {
                    B.due("a to the " + k + " is not 1", x.field(k, 0) != 1, true);
                }
            }
        }
    }

    private static void askMinimal() {
        B.of(Bounds.TERMS_II, "THE MINIMAL POLYNOMIAL of an element is that of least degree, not 0, over two elements, of which it is a root.");
        // By hand, of the field by 19: 1; a, a2, a4, a8; a3, a6, a9, a12; a5, a10; a7, a11, a13, a14.
        int[] due = {3, 19, 19, 31, 19, 7, 31, 25, 19, 31, 7, 25, 31, 25, 25};
        FlashPages x = Check.made("field 4 poly 19 mends 1 short 0;");
        for (int k = 0; k < 15; k++) {
            B.due("field(" + k + ", 2)", x.field(k, 2), due[k]);
        }
    }

    private static void askGeneratorRoots() {
        B.of(Bounds.TERMS_II, "THE GENERATOR is that of least degree of which a to the 1, 2, .. 2 t are roots (mends tells t); its degree is R.");
        String[] due = {"11001", "100010111", "11101100101", "111111111111111", "111111111111111"};
        for (int t = 1; t <= 5; t++) {
            FlashPages x = Check.made("field 4 poly 19 mends " + t + " short 0;");
            B.due("R by " + t, x.has(1), due[t - 1].length() - 1);
            for (int k = 0; k <= 62; k++) {
                boolean isOne = k < due[t - 1].length() && due[t - 1].charAt(k) == '1';
                B.due("generator(" + k + ") by " + t, x.generator(k), isOne ? 1 : 0);
            }
        }
    }

    private static void askSizes() {
        B.of(Bounds.TERMS_II, "DATA are N - R - S bits (short tells S). A WORD has N - S cells");
        for (int s = 0; s <= 56; s += 7) {
            FlashPages x = Check.made("field 6 poly 67 mends 1 short " + s + ";");
            B.due("bits by " + s, x.has(3), 57 - s);
            B.due("cells by " + s, x.has(2), 63 - s);
            B.due("N by " + s, x.has(0), 63);
            B.due("R by " + s, x.has(1), 6);
        }
    }

    private static void askWordShape() {
        B.of(Bounds.TERMS_II, "it is DATA times x to the R, and what is left of that modulo the GENERATOR.");
        FlashPages x = Check.made(Bounds.SMALL);
        // DATA 0, 1, 2, 8, 15 by x3 + x + 1.
        int[][] due = {{0, 0}, {1, 0b0001011}, {2, 0b0010110}, {4, 0b0100111}, {8, 0b1000101}, {15, 0b1111111}};
        for (int[] pair : due) {
            for (int k = 0; k < 7; k++) {
                B.due("word(0, " + pair[0] + ", " + k + ")", x.word(0, pair[0], k), pair[1] >> k & 1);
            }
        }
    }

    private static void askField() {
        B.of(8, "a to the k (0 .. N - 1; what 0), for which k that is the element k (1 .. N; what 1), the MINIMAL POLYNOMIAL of a to the k (0 .. N - 1; what 2).");
        FlashPages x = Check.made(Bounds.SMALL);
        int[] powers = {1, 2, 4, 3, 6, 7, 5};
        int[] minimal = {3, 11, 11, 13, 11, 13, 13};
        for (int k = 0; k < 7; k++) {
            B.due("field(" + k + ", 0)", x.field(k, 0), powers[k]);
            B.due("field(" + powers[k] + ", 1)", x.field(powers[k], 1), k);
            B.due("field(" + k + ", 2)", x.field(k, 2), minimal[k]);
        }
        for (int what : new int[] {0, 2}) {
            B.due("field(-1, " + what + ")", x.field(-1, what), -1);
            B.due("field(7, " + what + ")", x.field(7, what), -1);
        }
        B.due("field(0, 1)", x.field(0, 1), -1);
        B.due("field(8, 1)", x.field(8, 1), -1);
        x = Check.made("field 6 poly 67 mends 1 short 56;");
        B.due("field(62, 0), whatever S is", x.field(62, 0), 33);
        B.due("field(63, 0)", x.field(63, 0), -1);
        B.due("field(63, 1)", x.field(63, 1) >= 0, true);
        B.due("field(64, 1)", x.field(64, 1), -1);
        B.due("field(62, 2)", x.field(62, 2), 97);
        B.due("field(63, 2)", x.field(63, 2), -1);
    }

    private static void askFieldOthers() {
        B.of(8, "NONE when there is none such, or for others.");
        FlashPages x = Check.made(Bounds.SMALL);
        FlashPages none = new FlashPages();
        for (int what = -1; what <= 3; what++) {
            for (int k : FAR) {
                B.due("field(" + k + ", " + what + ")", x.field(k, what), -1);
            }
            B.due("without a chip, what " + what, none.field(1, what), -1);
        }
        for (int what : new int[] {-1, 3, Integer.MIN_VALUE, Integer.MAX_VALUE}) {
            B.due("field(1, " + what + ")", x.field(1, what), -1);
        }
    }

    private static void askGenerator() {
        B.of(9, "Bit k (0 .. 62) of the GENERATOR; NONE for others, or without a chip.");
        FlashPages x = Check.made(Bounds.SMALL);
        int[] due = {1, 1, 0, 1, 0};
        for (int k = 0; k < due.length; k++) {
            B.due("generator(" + k + ")", x.generator(k), due[k]);
        }
        B.due("generator(62)", x.generator(62), 0);
        for (int k : new int[] {-1, 63, 64, Integer.MIN_VALUE, Integer.MAX_VALUE}) {
            B.due("generator(" + k + ")", x.generator(k), -1);
        }
        B.due("without a chip", new FlashPages().generator(0), -1);
        B.due("without a chip", new FlashPages().generator(62), -1);
    }

    private static void askWord() {
        B.of(10, "Cell k of the WORD of DATA that is high times 2 to the 30, and low; NONE when there are none such");
        FlashPages x = Check.made(Bounds.SMALL);
        B.due("the last cell", x.word(0, 8, 6), 1);
        for (int k : new int[] {-1, 7, 63, Integer.MIN_VALUE, Integer.MAX_VALUE}) {
            B.due("word(0, 8, " + k + ")", x.word(0, 8, k), -1);
        }
        x = Check.made(Bounds.TINY);
        B.due("the last cell of 4", x.word(0, 1, 3), 1);
        B.due("none behind it", x.word(0, 1, 4), -1);
        B.due("without a chip", new FlashPages().word(0, 0, 0), -1);
        // DATA's bits begin at cell R.
        x = Check.made("field 6 poly 67 mends 1 short 0;");
        B.due("bit 29 of DATA", x.word(0, 1 << 29, 35), 1);
        B.due("bit 30 of DATA", x.word(0, 1 << 29, 36), 0);
        B.due("bit 29 of DATA", x.word(1, 0, 35), 0);
        B.due("bit 30 of DATA", x.word(1, 0, 36), 1);
        B.due("bit 56 of DATA", x.word(1 << 26, 0, 62), 1);
    }

    private static void askWordLimits() {
        B.of(10, "(low below 2 to the 30, all together as many bits as DATA has)");
        int most = (1 << 30) - 1;
        int[][] bits = {{56, 0, 1}, {28, 0, (1 << 29) - 1}, {27, 0, most}, {26, 1, most}, {1, (1 << 26) - 1, most}, {0, (1 << 27) - 1, most}};
        for (int[] row : bits) {
            FlashPages x = Check.made("field 6 poly 67 mends 1 short " + row[0] + ";page a;");
            String of = x.has(3) + " bits: ";
            B.due(of + "the greatest", x.word(row[1], row[2], 0) >= 0, true);
            B.due(of + "it is written", x.write(0, row[1], row[2]), true);
            boolean isLowFull = row[2] == most;
            B.due(of + "one more", x.word(isLowFull ? row[1] + 1 : row[1], isLowFull ? 0 : row[2] + 1, 0), -1);
            B.due(of + "one more written", x.write(0, isLowFull ? row[1] + 1 : row[1], isLowFull ? 0 : row[2] + 1), false);
            B.due(of + "low 2 to the 30", x.word(0, most + 1, 0), -1);
            B.due(of + "low the most", x.word(0, Integer.MAX_VALUE, 0), -1);
            B.due(of + "low -1", x.word(0, -1, 0), -1);
            B.due(of + "low the least", x.word(0, Integer.MIN_VALUE, 0), -1);
            B.due(of + "high -1", x.word(-1, 0, 0), -1);
            B.due(of + "high the least", x.word(Integer.MIN_VALUE, 0, 0), -1);
            B.due(of + "high the most", x.word(Integer.MAX_VALUE, 0, 0), -1);
            B.due(of + "both 0", x.word(0, 0, 0), 0);
        }
    }

    private static void askWeight() {
        B.of(11, "How many WORDS have so many ones (0 .. 63)");
        FlashPages x = Check.made(Bounds.SMALL);
        int[] due = {1, 0, 0, 7, 7, 0, 0, 1};
        for (int ones = 0; ones <= 63; ones++) {
            B.due("weight(" + ones + ")", x.weight(ones), ones < due.length ? due[ones] : 0);
        }
        for (int ones : new int[] {-1, 64, Integer.MIN_VALUE, Integer.MAX_VALUE}) {
            B.due("weight(" + ones + ")", x.weight(ones), -1);
        }
        x = Check.made("field 4 poly 19 mends 5 short 0;");
        B.due("none of no ones but one", x.weight(0), 1);
        B.due("all ones", x.weight(15), 1);
        B.due("fourteen", x.weight(14), 0);
    }

    private static void askWeightLimits() {
        B.of(11, "of a CHIP by which DATA has 12 bits at most; NONE for others.");
        for (int bits : new int[] {1, 11, 12, 13, 57}) {
            FlashPages x = Check.made("field 6 poly 67 mends 1 short " + (57 - bits) + ";");
            B.due("bits of DATA", x.has(3), bits);
            B.due("weight(0)", x.weight(0), bits <= 12 ? 1 : -1);
            B.due("weight(63)", x.weight(63), bits <= 12 ? 0 : -1);
            int sum = 0;
            for (int ones = 0; ones <= 63; ones++) {
                sum += x.weight(ones);
            }
            B.due("all of " + bits + " bits", sum, bits <= 12 ? 1 << bits : -64);
        }
        B.due("without a chip", new FlashPages().weight(0), -1);
    }

    private static void askPatternKinds() {
        B.of(Bounds.TERMS_III, "it is MENDED, if the READ is not REFUSED and TRUE, MISSED, if it is not REFUSED and not TRUE, else REFUSED.");
        // As many as t are MENDED; one more, in a perfect code, is MISSED, in a shortened one REFUSED now and then.
        patterns(Bounds.SMALL, 1, 7, 0, 0);
        patterns(Bounds.SMALL, 2, 0, 21, 0);
        patterns(Bounds.SMALL, 3, 0, 35, 0);
        // Of 0, 1, 2, 3 the pairs without 2 tell a cell, and the threes 0 1 3 (none) alone.
        patterns(Bounds.TINY, 1, 4, 0, 0);
        patterns(Bounds.TINY, 2, 0, 3, 3);
        patterns(Bounds.TINY, 3, 0, 1, 3);
        patterns("field 3 poly 11 mends 2 short 0;", 2, 21, 0, 0);
        // Three of seven cells are farther than two from both WORDS.
        patterns("field 3 poly 11 mends 2 short 0;", 3, 0, 0, 35);
        patterns("field 3 poly 11 mends 3 short 0;", 3, 35, 0, 0);
        // By t = 2, three cells are MISSED if they are three of the five of a WORD: 18 WORDS of 15 cells, 186 of 31, 1890 of 63.
        patterns("field 4 poly 19 mends 2 short 0;", 3, 0, 180, 455 - 180);
        patterns("field 5 poly 37 mends 2 short 0;", 3, 0, 1860, 4495 - 1860);
        patterns("field 6 poly 67 mends 2 short 0;", 3, 0, 18900, 39711 - 18900);
        // By t = 1, of all cells two tell a third one always.
        patterns("field 6 poly 67 mends 1 short 0;", 2, 0, 1953, 0);
        patterns("field 6 poly 67 mends 1 short 0;", 3, 0, 39711, 0);
        patterns("field 6 poly 67 mends 5 short 0;", 3, 63 * 62 * 61 / 6, 0, 0);
    }

    private static void patterns(String text, int n, int mended, int missed, int refused) {
        FlashPages x = Check.made(text);
        B.due(text + " patterns(" + n + ", 0)", x.patterns(n, 0), mended);
        B.due(text + " patterns(" + n + ", 1)", x.patterns(n, 1), missed);
        B.due(text + " patterns(" + n + ", 2)", x.patterns(n, 2), refused);
    }

    private static void askPatternLimits() {
        B.of(12, "Of all PATTERNS of n (1 .. 3; as many cells as there are at most): 0 how many are MENDED, 1 MISSED, 2 REFUSED. NONE when there are none such, or for others.");
        FlashPages x = Check.made(Bounds.TINY);
        for (int n : new int[] {0, -1, 4, Integer.MIN_VALUE, Integer.MAX_VALUE}) {
            for (int what = 0; what < 3; what++) {
                B.due("patterns(" + n + ", " + what + ")", x.patterns(n, what), -1);
            }
        }
        for (int what : new int[] {-1, 3, Integer.MIN_VALUE, Integer.MAX_VALUE}) {
            for (int n = 1; n <= 3; n++) {
                B.due("patterns(" + n + ", " + what + ")", x.patterns(n, what), -1);
            }
        }
        B.due("all of three cells of four", x.patterns(3, 0) + x.patterns(3, 1) + x.patterns(3, 2), 4);
        B.due("without a chip", new FlashPages().patterns(1, 0), -1);
    }
}
