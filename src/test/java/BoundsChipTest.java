/** The boundary cases of Terms I (a chip's text, its faults) and of the promises 4 to 7, sentence by sentence. */
public final class BoundsChipTest {
    private static final String SMALL = Bounds.SMALL;
    private static final int AT = SMALL.length();
    private static final String[] OWN = {"field", "poly", "mends", "short", "page", "high", "low", "mid", "step", "noise", "drifts",
        "tries", "day", "cell", "level", "bit", "age", "tried", "gap", "at", "if", "or", "and", "not", "all", "min", "max"};
    private static final Bounds B = new Bounds();

    public static void main(String[] args) {
        askStatementCount();
        askDegree();
        askPoly();
        askMends();
        askShort();
        askFieldAlone();
        askSixPages();
        askLevelRanges();
        askLastCounts();
        askStepAndNoise();
        askOneEach();
        askNames();
        askNumbers();
        askBlanks();
        askSideBySide();
        askOwnWords();
        askNoNameOwnWord();
        askWhole();
        askParts();
        askTooSoon();
        askNoStatement();
        askLongWords();
        askFirstAlong();
        askTwice();
        askBadNumbers();
        askEighth();
        askNotUntil();
        askTooMany();
        askForeignWords();
        askChip();
        askChipRefused();
        askChipAnew();
        askFault();
        askHas();
        askHasWithout();
        askLetter();
        B.finish();
    }

    private static void fault(String text, int number, int place) {
        B.fault(SMALL + text, number, AT + place);
    }

    private static void good(String text, int statements) {
        B.good(SMALL + text, statements);
    }

    private static void askStatementCount() {
        B.of(Bounds.TERMS_I, "A CHIP is a text: { STATEMENT ; } (40 at most)");
        good("", 1);
        good("low 1;".repeat(38), 39);
        good("low 1;".repeat(39), 40);
        fault("low 1;".repeat(40), 6, 39 * 6);
        B.fault(SMALL.substring(0, AT - 1), 1, AT - 1);
        fault("low 1", 1, 5);
        fault("low 1;;", 1, 6);
    }

    private static void askDegree() {
        B.of(Bounds.TERMS_I, "(3 .. 6; a PRIMITIVE of that degree");
        for (int m = 3; m <= 6; m++) {
            B.good("field " + m + " poly " + Chips.PRIMITIVE[m - 3][0] + " mends 1 short 0;", 1);
        }
        // 7 and 131 are PRIMITIVE too, of the degrees 2 and 7.
        B.fault("field 2 poly 7 mends 1 short 0;", 4, 6);
        B.fault("field 7 poly 131 mends 1 short 0;", 4, 6);
        B.fault("field 0 poly 11 mends 1 short 0;", 4, 6);
        B.fault("field 9999 poly 11 mends 1 short 0;", 4, 6);
    }

    private static void askPoly() {
        B.of(Bounds.TERMS_I, "a PRIMITIVE of that degree");
        int place = "field 4 poly ".length();
        for (int poly : new int[] {0, 1, 2, 11, 13, 15, 16, 17, 18, 20, 24, 31, 32, 37, 9999}) {
            B.fault("field 4 poly " + poly + " mends 1 short 0;", 4, place);
        }
        for (int poly : new int[] {19, 25}) {
            B.good("field 4 poly " + poly + " mends 1 short 0;", 1);
        }
        // Of degree 6 and without parts, but a to the 9, 21 is 1 already.
        B.fault("field 6 poly 73 mends 1 short 0;", 4, place);
        B.fault("field 6 poly 87 mends 1 short 0;", 4, place);
    }

    private static void askMends() {
        B.of(Bounds.TERMS_I, "1 .. 5, so that DATA has a bit at least");
        B.range("field 6 poly 67 mends # short 0;", 1, 5);
        B.range("field 5 poly 37 mends # short 0;", 1, 5);
        // By 4 and by 5 the same 14 of 15 cells are checks.
        B.range("field 4 poly 19 mends # short 0;", 1, 5);
        B.range("field 3 poly 11 mends # short 0;", 1, 3);
        FlashPages x = Check.made("field 3 poly 11 mends 3 short 0;");
        B.due("bits of DATA", x.has(3), 1);
        // Behind chips of a greater field, a to the 8, 9, 10 are still a, a2, a3.
        Check.chip(x, "field 6 poly 67 mends 5 short 0;");
        Check.chip(x, "field 6 poly 91 mends 5 short 0;");
        for (int mends = 4; mends <= 5; mends++) {
            B.due("chip() by " + mends, Check.chip(x, "field 3 poly 11 mends " + mends + " short 0;"), -1);
            B.due("its fault", x.fault(0), 4);
            B.due("its place", x.fault(1), 22);
        }
    }

    private static void askShort() {
        B.of(Bounds.TERMS_I, "below how many bits it has then");
        B.range("field 3 poly 11 mends 1 short #;", 0, 3);
        B.range("field 6 poly 67 mends 1 short #;", 0, 56);
        B.range("field 6 poly 67 mends 5 short #;", 0, 35);
        B.range("field 4 poly 19 mends 2 short #;", 0, 6);
        B.good("field 3 poly 11 mends 2 short 0;", 1);
        B.fault("field 3 poly 11 mends 2 short 1;", 4, 30);
        FlashPages x = Check.made("field 6 poly 67 mends 1 short 56;");
        B.due("one bit of DATA", x.has(3), 1);
        B.due("7 cells", x.has(2), 7);
    }

    private static void askFieldAlone() {
        B.of(Bounds.TERMS_I, "the first STATEMENT, and it alone");
        for (String word : new String[] {"page a;", "high 60;", "low 1;", "mid 50;", "step 1;", "noise 1;", "drifts 1;", "tries all;"}) {
            B.fault(word + SMALL, 1, 0);
            good(word, 2);
            fault(word + SMALL, 1, word.length());
        }
        fault(SMALL, 1, 0);
    }

    private static void askSixPages() {
        B.of(Bounds.TERMS_I, "page NAME (6 PAGES)");
        good("page a;page b;page c;page d;page e;", 6);
        String six = "page a;page b;page c;page d;page e;page f;";
        good(six, 7);
        fault(six + "page g;", 6, six.length());
        FlashPages x = Check.made(SMALL + six);
        B.due("has(4)", x.has(4), 6);
        B.due("the sixth", x.write(5, 0, 1), true);
        B.due("no seventh", x.write(6, 0, 1), false);
    }

    private static void askLevelRanges() {
        B.of(Bounds.TERMS_I, "high N, low N, mid N (51 .. 99, 0 .. 49, 1 .. 99;");
        B.range(SMALL + "high #;", 51, 99);
        B.range(SMALL + "low #;", 0, 49);
        B.range(SMALL + "mid #;", 1, 99);
        FlashPages x = Check.made(SMALL + "page a;high 99;low 0;mid 99;");
        x.write(0, 0, 1);
        B.due("high 99", x.level(0, 0, 0), 99);
        B.due("low 0", x.level(0, 2, 0), 0);
        B.due("mid 99", x.got(0, 2), 99);
        x = Check.made(SMALL + "page a;high 51;low 49;mid 1;");
        x.write(0, 0, 1);
        B.due("high 51", x.level(0, 0, 0), 51);
        B.due("low 49", x.level(0, 2, 0), 49);
        B.due("mid 1", x.got(0, 2), 1);
    }

    private static void askLastCounts() {
        B.of(Bounds.TERMS_I, "the last one of each counts, 70, 30, 50 without)");
        FlashPages x = Check.made(SMALL + "page a;");
        x.write(0, 0, 1);
        B.due("high without", x.level(0, 0, 0), 70);
        B.due("low without", x.level(0, 2, 0), 30);
        B.due("mid without", x.got(0, 2), 50);
        x = Check.made(SMALL + "high 99;low 49;mid 99;page a;high 60;low 2;mid 3;high 61;low 3;mid 4;");
        x.write(0, 0, 1);
        B.due("the last high", x.level(0, 0, 0), 61);
        B.due("the last low", x.level(0, 2, 0), 3);
        B.due("the last mid", x.got(0, 2), 4);
    }

    private static void askStepAndNoise() {
        B.of(Bounds.TERMS_I, "step N (1 .. 20; 3 without), noise N (0 .. 100; 0 without), likewise");
        B.range(SMALL + "step #;", 1, 20);
        B.range(SMALL + "noise #;", 0, 100);
        B.due("step without", secondThreshold(""), 53);
        B.due("step 1", secondThreshold("step 1;"), 51);
        B.due("step 20", secondThreshold("step 20;"), 70);
        B.due("the last step", secondThreshold("step 20;step 7;"), 57);
        B.due("noise without", noises(""), 0);
        B.due("noise 0", noises("noise 0;"), 0);
        B.due("noise 100", noises("noise 100;"), 40);
        B.due("the last noise", noises("noise 100;noise 0;"), 0);
    }

    /** A page of four cells with more ones than wanted, read twice. */
    private static int secondThreshold(String rest) {
        FlashPages x = Check.made(Bounds.TINY + "page a;tries tried<2;" + rest);
        x.write(0, 0, 0);
        // The cells 0 and 2 read as ones tell the place 6, which is no cell.
        x.flip(0, 0);
        x.flip(0, 2);
        return x.got(0, 1) == 2 ? x.got(0, 2) : -1;
    }

    private static int noises(String rest) {
        FlashPages x = Check.made(SMALL + "page a;" + rest);
        x.write(0, 0, 1);
        return x.chance(40);
    }

    private static void askOneEach() {
        B.of(Bounds.TERMS_I, "drifts SUM, tries TEST (one each)");
        good("drifts 1;tries all;", 3);
        good("tries all;drifts 1;", 3);
        fault("drifts 1;drifts 1;", 6, 9);
        fault("tries all;tries all;", 6, 10);
        fault("drifts 1;tries all;low 1;drifts 1;", 6, 25);
    }

    private static void askNames() {
        B.of(Bounds.TERMS_I, "NAMES: 1 to 6 letters, unlike ones.");
        good("page a;page ab;page abc;page abcd;page abcde;page abcdef;", 7);
        fault("page ;", 1, 5);
        fault("page abcdefg;", 1, 11);
        good("page a;page aa;page b;", 4);
        fault("page aa;page aa;", 2, 13);
        good("page z;page zzzzzz;page abcdef;page abcdeg;", 5);
        // No letters: the bytes next to a and z, and the great ones.
        for (char sign : new char[] {'`', '{', 'A', 'Z', '_', '0', (char) 228}) {
            fault("page " + sign + ";", 1, 5);
            fault("page a" + sign + ";", 1, 6);
        }
    }

    private static void askNumbers() {
        B.of(Bounds.TERMS_I, "NUMBERS: 1 to 4 digits.");
        good("drifts 0;", 2);
        good("drifts 9999;", 2);
        good("drifts 0000;", 2);
        good("low 0049;", 2);
        fault("drifts 10000;", 1, 11);
        fault("low 00049;", 1, 8);
        for (char sign : new char[] {'/', ':', '.'}) {
            fault("low " + sign + ";", 1, 4);
            fault("low 4" + sign + ";", 1, 5);
        }
    }

    private static void askBlanks() {
        B.of(Bounds.TERMS_I, "Blanks (10, 32) are where one likes");
        good(" \n low\n \n1 \n;\n drifts\n(\n1 + 2 )\n*min ( 1\n, 2 )\n;\n\n ", 3);
        for (char sign : new char[] {0, 9, 11, 12, 13, 31, 33, 127, 160, 255}) {
            fault("low" + sign + "1;", 1, 3);
            fault("low 1;" + sign, 1, 6);
        }
        B.fault("fie ld 3", 1, 0);
        B.fault("field 3 poly 1 1", 4, 13);
        fault("low 4 9;", 1, 6);
        fault("page a b;", 1, 7);
    }

    private static void askSideBySide() {
        B.of(Bounds.TERMS_I, "(words and numbers side by side need one)");
        B.fault("field3 poly 11 mends 1 short 0;", 1, 5);
        B.fault("field 3poly 11 mends 1 short 0;", 1, 7);
        B.fault("field 3 poly11 mends 1 short 0;", 1, 12);
        B.fault("field 3 poly 11mends 1 short 0;", 1, 15);
        fault("low1;", 1, 3);
        fault("drifts1;", 1, 6);
        fault("tries 1<2and 1<2;", 1, 9);
        fault("tries 1<2 and1<2;", 1, 13);
        good("tries 1<2 and 1<2;", 2);
        good("tries not[1<2]and[all]or not[1<(2)];", 2);
        good("drifts(1);tries[all];", 3);
    }

    private static void askOwnWords() {
        B.of(Bounds.TERMS_I, "OWN WORDS, which no NAME is");
        for (String word : OWN) {
            fault("page " + word + ";", 1, 5);
            fault("page a;page " + word + ";", 1, 12);
            good("page " + word.substring(1) + "q;", 2);
            if (word.length() < 6) {
                good("page " + word + "q;", 2);
            }
        }
    }

    private static void askNoNameOwnWord() {
        B.of(Bounds.TERMS_I, "an OWN WORD where a NAME must be)");
        for (String word : OWN) {
            fault("page   " + word, 1, 7);
        }
    }

    private static void askWhole() {
        B.of(Bounds.TERMS_I, "1 the first byte with which no CHIP goes on (words and numbers whole, at their first byte;");
        B.fault("fields 3", 1, 0);
        B.fault("fiel 3", 1, 0);
        B.fault("field 3 pol 11", 1, 8);
        B.fault("field 3 polys 11", 1, 8);
        B.fault("field 3 poly 11 short 0", 1, 16);
        B.fault("field 3 poly 11 mends 1 mends", 1, 24);
        for (String cut : new String[] {"field", "field 3", "field 3 poly", "field 3 poly 11", "field 3 poly 11 mends", "field 3 poly 11 mends 1",
            "field 3 poly 11 mends 1 short"}) {
            B.fault(cut + ";", 1, cut.length());
            B.fault(cut + "#;", 1, cut.length());
        }
        fault("lo 1;", 1, 0);
        fault("lows 1;", 1, 0);
        fault("low high;", 1, 4);
        fault("low 1 high;", 1, 6);
        fault("low 1 234;", 1, 6);
        fault("page 12;", 1, 5);
        fault("drifts 1 22;", 1, 9);
        fault("drifts 1+days;", 1, 9);
        fault("tries alls;", 1, 6);
        fault("tries all ands all;", 1, 10);
        fault("drifts mins(1,2);", 1, 7);
    }

    private static void askParts() {
        B.of(Bounds.TERMS_I, "SUM: PRODUCT { + or - PRODUCT }. PRODUCT: PART { * or / or % PART }. PART: N;");
        good("drifts 1+2-3*4/5%6;", 2);
        fault("drifts +1;", 1, 7);
        fault("drifts 1+;", 1, 9);
        fault("drifts 1*;", 1, 9);
        fault("drifts 1**2;", 1, 9);
        fault("drifts 1+-2;", 1, 9);
        fault("drifts -1;", 1, 7);
        B.of(Bounds.TERMS_I, "( SUM ) ; min ( SUM , SUM ) ; max ( SUM , SUM ) ; if ( TEST , SUM , SUM )");
        fault("drifts ();", 1, 8);
        fault("drifts (1;", 1, 9);
        fault("drifts (1];", 1, 9);
        fault("drifts (all);", 1, 8);
        fault("drifts min;", 1, 10);
        fault("drifts min(1);", 1, 12);
        fault("drifts min(1,2,3);", 1, 14);
        fault("drifts max(1 2);", 1, 13);
        fault("drifts max(1,2;", 1, 14);
        fault("drifts max(1,;", 1, 13);
        fault("drifts max(1;", 1, 12);
        fault("drifts if(all,2,3;", 1, 17);
        fault("drifts if(all,2,;", 1, 16);
        fault("drifts if(all,;", 1, 14);
        fault("drifts if(all;", 1, 13);
        fault("drifts if(;", 1, 10);
        fault("tries all or;", 1, 12);
        fault("tries all and;", 1, 13);
        fault("tries not;", 1, 9);
        fault("tries 1<;", 1, 8);
        fault("tries [all;", 1, 10);
        fault("drifts max(,2);", 1, 11);
        fault("drifts if(1,2,3);", 1, 11);
        fault("drifts if(all,2);", 1, 15);
        fault("drifts if(all,2,3,4);", 1, 17);
        fault("drifts if all,2,3;", 1, 10);
        fault("drifts [1];", 1, 7);
        fault("tries [1];", 1, 8);
        fault("tries [];", 1, 7);
        fault("tries (1<2);", 1, 8);
    }

    private static void askTooSoon() {
        B.of(Bounds.TERMS_I, "at the text's length, if it ends too soon");
        String text = "field 3 poly 11 mends 1 short 0;page abc;drifts if(1<2,(3),min(4,5));tries not[all]or 1<2;";
        B.good(text, 4);
        for (String cut : new String[] {"field", "field 3", "field 3 poly", "field 3 poly 11", "field 3 poly 11 mends", "field 3 poly 11 mends 1",
            "field 3 poly 11 mends 1 short", "field 3 poly 11 mends 1 short 0"}) {
            B.fault(cut, 1, cut.length());
            B.fault(cut + " \n ", 1, cut.length() + 3);
        }
        int drifts = text.indexOf("drifts");
        for (int size = drifts + 6; size < text.length(); size++) {
            boolean isWhole = text.charAt(size - 1) == ';';
            char last = text.charAt(size - 1);
            char next = text.charAt(size);
            boolean cutsWord = Character.isLetter(last) && Character.isLetter(next);
            if (!isWhole && !cutsWord) {
                B.fault(text.substring(0, size), 1, size);
                B.fault(text.substring(0, size) + "  ", 1, size + 2);
            }
        }
    }

    private static void askNoStatement() {
        B.of(Bounds.TERMS_I, "a text without a STATEMENT has FAULT 1 at its length");
        B.fault("", 1, 0);
        B.fault(" ", 1, 1);
        B.fault("\n", 1, 1);
        B.fault(" \n \n ", 1, 5);
        B.fault(";", 1, 0);
        B.fault(" ;", 1, 1);
        B.fault(" ".repeat(1600), 1, 1600);
    }

    private static void askLongWords() {
        B.of(Bounds.TERMS_I, "a 7th letter, a 5th digit at itself, whatever may stand there");
        B.fault("fieldxx 3", 1, 6);
        B.fault("abcdefg", 1, 6);
        B.fault("12345", 1, 4);
        B.fault("field abcdefgh", 1, 12);
        B.fault("field 12345", 1, 10);
        B.fault("field 3 poly 00011", 1, 17);
        fault("driftsx 1;", 1, 6);
        fault("page abcdefg;", 1, 11);
        fault("page 12345;", 1, 9);
        fault("low abcdefg;", 1, 10);
        fault("low 00001;", 1, 8);
        fault("drifts abcdefg;", 1, 13);
        fault("drifts 1 abcdefg;", 1, 15);
        fault("drifts 1 12345;", 1, 13);
        fault("page abcdef;page abcdefg;", 1, 23);
        // Six letters, four digits are whole: they are at fault at their first byte.
        B.fault("abcdef", 1, 0);
        B.fault("1234", 1, 0);
        fault("page 1234;", 1, 5);
        fault("low abcdef;", 1, 4);
    }

    private static void askFirstAlong() {
        B.of(Bounds.TERMS_I, "FAULTS, the first along the text");
        fault("low 50;low 50;", 4, 4);
        fault("low 50 low", 4, 4);
        fault("page a;page a#", 2, 12);
        fault("page a;low 50;page a;", 4, 11);
        fault("page a;page a;low 50;", 2, 12);
        fault("drifts 1;drifts 99999;", 6, 9);
        fault("drifts ((((((((99999", 5, 14);
        fault("low 1;".repeat(39) + "abcdefg", 6, 39 * 6);
    }

    private static void askTwice() {
        B.of(Bounds.TERMS_I, "2 a NAME that is there already, at its first byte");
        fault("page a;page a;", 2, 12);
        fault("page abcdef;low 1;page abcdef;", 2, 23);
        fault("page a;page b;page c;page d;page e;page e;", 2, 40);
        good("page ab;page ba;page a;page b;", 5);
    }

    private static void askBadNumbers() {
        B.of(Bounds.TERMS_I, "4 a NUMBER that can't be, at its first byte");
        fault("high   50;", 4, 7);
        fault("high 0050;", 4, 5);
        fault("high 50x", 4, 5);
        fault("high 50", 4, 5);
        good("high 0051;", 2);
    }

    private static void askEighth() {
        B.of(Bounds.TERMS_I, "5 the 8th ( [ not that is open at once");
        good("drifts (((((((1)))))));", 2);
        fault("drifts ((((((((1))))))));", 5, 14);
        good("tries [[[[[[[all]]]]]]];", 2);
        fault("tries [[[[[[[[all]]]]]]]];", 5, 13);
        good("tries not not not not not not not all;", 2);
        fault("tries not not not not not not not not all;", 5, 34);
        good("tries not[not[not[(1)<2]]];", 2);
        good("tries [not[not[(if(all,1,2))<2]]];", 2);
        fault("tries not[not[not[((1))<2]]];", 5, 19);
        good("drifts min(max(min(max(min(max(min(1,2),3),4),5),6),7),8);", 2);
        fault("drifts min(max(min(max(min(max(min(min(1,2),3),4),5),6),7),8),9);", 5, 38);
        good("drifts if(if(if(if(if(if(if(1<2,1,2)<2,1,2)<2,1,2)<2,1,2)<2,1,2)<2,1,2)<2,1,2);", 2);
        fault("drifts if(if(if(if(if(if(if(if(1<2", 5, 30);
        // In each place where a SUM or a TEST stands, six more may be open, and not seven.
        String six = "((((((1))))))";
        for (String text : new String[] {"min(#,1)", "min(1,#)", "max(#,1)", "max(1,#)", "if(#<1,1,1)", "if(1<#,1,1)", "if(all,#,1)", "if(all,1,#)", "(#)",
            "(1+#)", "(1*#)", "(1-1/#)"}) {
            good("drifts " + text.replace("#", six) + ";", 2);
            fault("drifts " + text.replace("#", "(" + six + ")") + ";", 5, 7 + text.indexOf('#') + 6);
        }
        for (String text : new String[] {"[#<1]", "[1>#]", "[all and #=1]", "[all or #=1]", "not #<1", "not 1=#", "all and not 1=#", "all or not 1=#"}) {
            good("tries " + text.replace("#", six) + ";", 2);
            fault("tries " + text.replace("#", "(" + six + ")") + ";", 5, 6 + text.indexOf('#') + 6);
        }
        // What is closed is not open any more.
        good("drifts (1)+(1)+(1)+(1)+(1)+(1)+(1)+(1)+(1)+(((((((1)))))));", 2);
    }

    private static void askNotUntil() {
        B.of(Bounds.TERMS_I, "(not until its FACT ends)");
        good("tries not all and not all and not all and not all and not all and not all and not all and not all;", 2);
        good("tries not not not not not not not all or[[[[[[[all]]]]]]];", 2);
        good("tries not((((((1))))))<1;", 2);
        fault("tries not(((((((1)))))))<1;", 5, 15);
        good("tries not 1<((((((1))))));", 2);
        fault("tries not 1<(((((((1)))))));", 5, 18);
        good("tries not not not not not not 1<(1);", 2);
        fault("tries not not not not not not not 1<(1);", 5, 36);
        good("tries not[not[not[not all and not all]]];", 2);
    }

    private static void askTooMany() {
        B.of(Bounds.TERMS_I, "6 one too many of a kind of STATEMENT (a second drifts, tries, too), or the 41st STATEMENT (whatever it is), at its first byte");
        String six = "page a;page b;page c;page d;page e;page f;";
        fault(six + "  page", 6, six.length() + 2);
        fault("drifts 1; \n drifts", 6, 12);
        fault("tries all; \n tries", 6, 13);
        String all = "low 1;".repeat(39);
        for (String word : new String[] {"low 1;", "page a;", "page at;", "drifts 1;", "tries all;", "high 1;", SMALL, "abc", "abcdefg", "poly", "1"}) {
            fault(all + word, 6, all.length());
            fault(all + " \n" + word, 6, all.length() + 2);
        }
        good(all + " \n", 40);
        fault("low 1;".repeat(38) + "low 1", 1, 38 * 6 + 5);
        fault("low 1;".repeat(38) + "abc", 1, 38 * 6);
    }

    private static void askForeignWords() {
        B.of(Bounds.TERMS_I, "in drifts: day; page; cell; level; bit; age; in tries: tried; gap; at;");
        for (String word : new String[] {"day", "page", "cell", "level", "bit", "age"}) {
            good("drifts " + word + ";", 2);
            good("drifts if(" + word + "=1,1," + word + ");", 2);
            fault("tries " + word + "=1;", 1, 6);
            fault("tries 1=" + word + ";", 1, 8);
        }
        for (String word : new String[] {"tried", "gap", "at"}) {
            good("tries " + word + "=1;", 2);
            good("tries if(" + word + "=1,1," + word + ")=1;", 2);
            fault("drifts " + word + ";", 1, 7);
            fault("drifts if(" + word + "=1,1,1);", 1, 10);
        }
    }

    private static void askChip() {
        B.of(4, "The tape (it goes) is THE CHIP: how many STATEMENTS");
        FlashPages x = new FlashPages();
        B.due("chip()", Check.chip(x, SMALL), 1);
        B.due("the tape went", x.end(1), false);
        B.due("chip() of 40", Check.chip(x, SMALL + "low 1;".repeat(39)), 40);
        String full = SMALL + "drifts 1" + "+1".repeat((1600 - AT - 10) / 2) + ";";
        full = full + " ".repeat(1600 - full.length());
        for (int i = 0; i < 3; i++) {
            B.due("chip() of 1600 bytes", Check.chip(x, full), 2);
        }
        String long1600 = SMALL + "page a;drifts 0" + "+1-1".repeat((1600 - AT - 20) / 4) + "+7;";
        for (int i = 0; i < 3; i++) {
            B.due("chip() of a long SUM", Check.chip(x, long1600), 3);
            x.write(0, 0, 1);
            B.due("all of it counts", x.level(0, 0, 1), 77);
        }
        B.due("the tape went", x.feed(0, 0, 0, 0, 0), 20);
    }

    private static void askChipRefused() {
        B.of(4, "NONE, refused (1), with a FAULT (all stays).");
        for (String text : new String[] {"", "page a;", "field 4 poly 19 mends 1 short 0;page x;high 99;low 1;drifts 9;tries not all;x",
            "field 6 poly 67 mends 5 short 35;page x;page x;", SMALL + "low 1;".repeat(40), SMALL + "low 50;", SMALL + "drifts ((((((((1"}) {
            B.refused("chip() of " + text, 1, -1, Bounds::scene, x -> {
                x.end(0);
                return Check.chip(x, text);
            });
        }
        B.refused("chip() ahead of any", 1, -1, FlashPages::new, x -> Check.chip(x, "field"));
    }

    private static void askChipAnew() {
        B.of(4, "Without one all is as at first, nothing is written, KEPT or MET, no ACT can be undone; the seed stays.");
        FlashPages x = Bounds.scene();
        int seed = x.has(10);
        x.end(0);
        B.due("chip()", Check.chip(x, SMALL + "page a;page b;"), 3);
        int[] due = {7, 3, 7, 4, 2, 0, 0, 0, 0, 0, seed};
        for (int what = 0; what < due.length; what++) {
            B.due("has(" + what + ")", x.has(what), due[what]);
        }
        B.due("nothing is written", x.page(0, 0), 0);
        B.due("nothing is KEPT", x.kept(0, 0), -1);
        B.due("no ACT", x.undo(), false);
        B.due("write", x.write(0, 0, 1), true);
        B.due("nothing is MET", x.shifts(0, -1), 19);
        B.due("no drifts", x.level(0, 0, 40), 70);
        B.due("no page c", x.write(2, 0, 1), false);
        askAllAtFirst();
    }

    /** Of the chips ahead, good and bad ones, nothing is left. */
    private static void askAllAtFirst() {
        String rest = "page a;high 90;low 10;mid 20;step 9;noise 90;tries not all;drifts 9";
        FlashPages x = Check.made(Bounds.TINY + rest + ";");
        x.write(0, 0, 0);
        x.flip(0, 3);
        B.due("syndrome by 11", x.syndrome(0, 50, 1), 3);
        B.due("weight(3) by 11", x.weight(3), 1);
        B.due("patterns by 11", x.patterns(2, 1), 3);
        Check.chip(x, Bounds.TINY + rest + "#");
        Check.chip(x, Bounds.TINY.replace("11", "13") + "page b;");
        B.due("one PAGE", x.has(4), 1);
        x.write(0, 0, 0);
        B.due("low", x.level(0, 0, 0), 30);
        B.due("no drifts", x.level(0, 0, 1), 30);
        x.flip(0, 3);
        B.due("syndrome by 13", x.syndrome(0, 50, 1), 5);
        // By 13 the WORDS are none, and 0, 2, 3: pairs without 1 tell a cell.
        B.due("weight(3) by 13", x.weight(3), 1);
        B.due("patterns by 13", x.patterns(2, 1), 3);
        x.flip(0, 1);
        B.due("1 and 3 tell no cell", x.why(0, 50), 3);
        B.due("tries, step", x.got(0, 2), 71);
        B.due("8 READS", x.got(0, 1), 8);
        B.due("no noise", x.chance(40), 0);
        Check.chip(x, Bounds.SMALL + "page b;");
        B.due("weight(3) of 7 cells", x.weight(3), 7);
        B.due("patterns of 7 cells", x.patterns(2, 1), 21);
        Check.chip(x, Bounds.TINY);
        Check.chip(x, Bounds.TINY);
        B.due("patterns of 4 cells", x.patterns(2, 1), 3);
    }

    private static void askFault() {
        B.of(5, "Of the latest chip(): its FAULT (what 0; 0 without, and ahead of any), its place (1; NONE without). NONE for another what.");
        FlashPages x = new FlashPages();
        B.due("fault(0) ahead of any", x.fault(0), 0);
        B.due("fault(1) ahead of any", x.fault(1), -1);
        Check.chip(x, "");
        B.due("fault(0)", x.fault(0), 1);
        B.due("its place", x.fault(1), 0);
        for (int what : new int[] {-1, 2, Integer.MIN_VALUE, Integer.MAX_VALUE}) {
            B.due("fault(" + what + ")", x.fault(what), -1);
        }
        Check.chip(x, SMALL + "low 50;");
        B.due("of the latest", x.fault(0), 4);
        B.due("its place", x.fault(1), AT + 4);
        Check.chip(x, SMALL);
        B.due("without", x.fault(0), 0);
        B.due("its place", x.fault(1), -1);
        B.due("another what", x.fault(2), -1);
    }

    private static void askHas() {
        B.of(6, "0 N, 1 R, 2 cells of a WORD, 3 bits of DATA, 4 PAGES, 5 written ones, 6 DAY, 7 told as KEPT, 8 rows MET, 9 ACTS that can be undone, 10 the seed.");
        FlashPages x = Check.made("field 4 poly 19 mends 2 short 3;page a;page b;page c;");
        x.write(0, 0, 1);
        x.write(2, 0, 1);
        x.days(9);
        Check.feed(x, 1, 1, 2, 2, 3, 3, 4, 4, 5, 5);
        x.meet();
        int[] due = {15, 8, 12, 4, 3, 2, 9, 2, 5, 3, 1};
        for (int what = 0; what < due.length; what++) {
            B.due("has(" + what + ")", x.has(what), due[what]);
        }
        for (int what : new int[] {-1, 11, Integer.MIN_VALUE, Integer.MAX_VALUE}) {
            B.due("has(" + what + ")", x.has(what), -1);
        }
    }

    private static void askHasWithout() {
        B.of(6, "Without a chip all but the last are 0. NONE for others.");
        FlashPages x = new FlashPages();
        x.seed(77);
        for (int round = 0; round < 2; round++) {
            for (int what = 0; what < 10; what++) {
                B.due("has(" + what + ")", x.has(what), 0);
            }
            B.due("has(10)", x.has(10), 77);
            B.due("has(-1)", x.has(-1), -1);
            B.due("has(11)", x.has(11), -1);
            // A chip with a fault is none.
            Check.chip(x, SMALL + "page a;low 50;");
        }
    }

    private static void askLetter() {
        B.of(7, "Letter k (0 .. 5) of the NAME of a PAGE: 1 .. 26; 0 behind it; NONE when there is none such.");
        FlashPages x = Check.made(SMALL + "page azbycx;page z;");
        int[] due = {1, 26, 2, 25, 3, 24};
        for (int k = 0; k < 6; k++) {
            B.due("letter(0, " + k + ")", x.letter(0, k), due[k]);
            B.due("letter(1, " + k + ")", x.letter(1, k), k == 0 ? 26 : 0);
        }
        for (int k : new int[] {-1, 6, Integer.MIN_VALUE, Integer.MAX_VALUE}) {
            B.due("letter(0, " + k + ")", x.letter(0, k), -1);
        }
        for (int page : new int[] {-1, 2, 6, Integer.MIN_VALUE, Integer.MAX_VALUE}) {
            B.due("letter(" + page + ", 0)", x.letter(page, 0), -1);
        }
    }
}
