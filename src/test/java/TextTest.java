/** Promises 4, 5 and 7: texts, their FAULTS and places, NAMES. */
public final class TextTest {
    private static final String FIELD = "field 3 poly 11 mends 1 short 0;";
    private static final Check CHECK = new Check();

    public static void main(String[] args) {
        askFieldFaults();
        askStatementFaults();
        askTermFaults();
        askLongWords();
        askSideBySide();
        askOpen();
        askTooMany();
        askGoodTexts();
        askPrimitive();
        askCodes();
        askNames();
        askWhatStays();
        CHECK.finish();
    }

    private static void fault(String text, int number, int place) {
        FlashPages x = new FlashPages();
        CHECK.due("chip() of " + text, Check.chip(x, text), -1);
        CHECK.due("fault(0) of " + text, x.fault(0), number);
        CHECK.due("fault(1) of " + text, x.fault(1), place);
        CHECK.due("fault(2)", x.fault(2), -1);
        CHECK.due("fault(-1)", x.fault(-1), -1);
        CHECK.due("status(1)", x.status(1), 1);
        CHECK.due("has(0) of " + text, x.has(0), 0);
    }

    /** Behind the field, at its place there. */
    private static void faultBehind(String text, int number, int place) {
        fault(FIELD + text, number, FIELD.length() + place);
    }

    private static void good(String text, int statements) {
        FlashPages x = new FlashPages();
        CHECK.due("chip() of " + text, Check.chip(x, text), statements);
        CHECK.due("fault(0) of " + text, x.fault(0), 0);
        CHECK.due("fault(1) of " + text, x.fault(1), -1);
        CHECK.due("status(1)", x.status(1), 0);
    }

    private static void goodBehind(String text, int statements) {
        good(FIELD + text, statements);
    }

    private static void askFieldFaults() {
        fault("", 1, 0);
        fault(" \n ", 1, 3);
        fault(";", 1, 0);
        fault("fiel", 1, 0);
        fault("field", 1, 5);
        fault("field \n", 1, 7);
        fault("Field 3", 1, 0);
        fault("\tfield 3", 1, 0);
        fault("\0field 3", 1, 0);
        fault("field\0", 1, 5);
        fault("field\r3", 1, 5);
        fault("  page a", 1, 2);
        fault("field 2", 4, 6);
        fault("field 7", 4, 6);
        fault("field 0 foo", 4, 6);
        fault("field 9999", 4, 6);
        fault("field 12345", 1, 10);
        fault("field x", 1, 6);
        fault("field -3", 1, 6);
        fault("field 3;", 1, 7);
        fault("field 3 11", 1, 8);
        fault("field 3 poly", 1, 12);
        fault("field 3 poly x", 1, 13);
        fault("field 3 poly 8 x", 4, 13);
        fault("field 3 poly 9", 4, 13);
        fault("field 3 poly 7", 4, 13);
        fault("field 3 poly 19", 4, 13);
        fault("field 4 poly 11", 4, 13);
        fault("field 6 poly 73", 4, 13);
        fault("field 3 poly 0", 4, 13);
        fault("field 3 poly 9999", 4, 13);
        fault("field 3 poly 10011", 1, 17);
        fault("field 3 poly 11 short 0", 1, 16);
        fault("field 3 poly 11 mends 0", 4, 22);
        fault("field 3 poly 11 mends 6", 4, 22);
        fault("field 6 poly 67 mends 6 x", 4, 22);
        fault("field 3 poly 11 mends 4 x", 4, 22);
        fault("field 3 poly 11 mends 5", 4, 22);
        fault("field 3 poly 11 mends", 1, 21);
        fault("field 3 poly 11 mends 1 short", 1, 29);
        fault("field 3 poly 11 mends 1 short 4", 4, 30);
        fault("field 3 poly 11 mends 1 short 9999", 4, 30);
        fault("field 3 poly 11 mends 2 short 1;", 4, 30);
        fault("field 4 poly 19 mends 5 short 1;", 4, 30);
        fault("field 3 poly 11 mends 1 short 0", 1, 31);
        fault("field 3 poly 11 mends 1 short 0 \n", 1, 33);
        fault("field 3 poly 11 mends 1 short 0 page", 1, 32);
        fault("field 3 poly 11 mends 1 short 0,", 1, 31);
    }

    private static void askStatementFaults() {
        faultBehind(";", 1, 0);
        faultBehind("5;", 1, 0);
        faultBehind("\0", 1, 0);
        faultBehind("step 1;\0", 1, 7);
        faultBehind("field 3 poly 11 mends 1 short 0;", 1, 0);
        faultBehind("poly 11;", 1, 0);
        faultBehind("steps 1;", 1, 0);
        faultBehind("day;", 1, 0);
        faultBehind("page", 1, 4);
        faultBehind("page;", 1, 4);
        faultBehind("page 5;", 1, 5);
        faultBehind("page a", 1, 6);
        faultBehind("page a b;", 1, 7);
        faultBehind("page A;", 1, 5);
        faultBehind("page aB;", 1, 6);
        faultBehind("page at;", 1, 5);
        faultBehind("page ab; page ab;", 2, 14);
        faultBehind("page ab; page abc; page ab", 2, 24);
        faultBehind("high 50", 4, 5);
        faultBehind("high 100", 4, 5);
        faultBehind("low 50", 4, 4);
        faultBehind("mid 0", 4, 4);
        faultBehind("mid 100", 4, 4);
        faultBehind("step 0", 4, 5);
        faultBehind("step 21", 4, 5);
        faultBehind("noise 101", 4, 6);
        faultBehind("high", 1, 4);
        faultBehind("high 0-1;", 4, 5);
        faultBehind("low -1;", 1, 4);
        faultBehind("high 60 61;", 1, 8);
        for (String word : new String[] {"field", "poly", "mends", "short", "page", "high", "low", "mid", "step", "noise",
            "drifts", "tries", "day", "cell", "level", "bit", "age", "tried", "gap", "at", "if", "or", "and", "not", "all",
            "min", "max"}) {
            faultBehind("page " + word + ";", 1, 5);
            if (word.length() < 6) {
                goodBehind("page " + word + "x;", 2);
            }
        }
    }

    private static void askTermFaults() {
        faultBehind("drifts", 1, 6);
        faultBehind("drifts;", 1, 6);
        faultBehind("drifts tried;", 1, 7);
        faultBehind("drifts gap;", 1, 7);
        faultBehind("drifts at;", 1, 7);
        faultBehind("drifts all;", 1, 7);
        faultBehind("drifts not 1<2;", 1, 7);
        faultBehind("drifts 1<2;", 1, 8);
        faultBehind("drifts foo;", 1, 7);
        faultBehind("drifts -1;", 1, 7);
        faultBehind("drifts 1+;", 1, 9);
        faultBehind("drifts 1+-1;", 1, 9);
        faultBehind("drifts 1 1;", 1, 9);
        faultBehind("drifts (1;", 1, 9);
        faultBehind("drifts (1", 1, 9);
        faultBehind("drifts 1);", 1, 8);
        faultBehind("drifts ();", 1, 8);
        faultBehind("drifts [1];", 1, 7);
        faultBehind("drifts min 1;", 1, 11);
        faultBehind("drifts min(1);", 1, 12);
        faultBehind("drifts min(1,);", 1, 13);
        faultBehind("drifts max(1,2,3);", 1, 14);
        faultBehind("drifts if(1,2,3);", 1, 11);
        faultBehind("drifts if(1<2,3);", 1, 15);
        faultBehind("drifts if(1<2,3,4;", 1, 17);
        faultBehind("drifts if(tried<2,3,4);", 1, 10);
        faultBehind("drifts if(all and,3,4);", 1, 17);
        faultBehind("drifts 1 # 2;", 1, 9);
        faultBehind("tries", 1, 5);
        faultBehind("tries 1;", 1, 7);
        faultBehind("tries level>1", 1, 6);
        faultBehind("tries day>1", 1, 6);
        faultBehind("tries page>1", 1, 6);
        faultBehind("tries bit=1", 1, 6);
        faultBehind("tries age=1", 1, 6);
        faultBehind("tries cell=1", 1, 6);
        faultBehind("tries if(level>1,1,2)>1", 1, 9);
        faultBehind("tries 1<2<3;", 1, 9);
        faultBehind("tries 1<=2;", 1, 8);
        faultBehind("tries [1<2;", 1, 10);
        faultBehind("tries [1<2);", 1, 10);
        faultBehind("tries (1<2);", 1, 8);
        faultBehind("tries not;", 1, 9);
        faultBehind("tries all or;", 1, 12);
        faultBehind("tries all all;", 1, 10);
        faultBehind("tries all+1>2;", 1, 9);
        faultBehind("tries and all;", 1, 6);
    }

    private static void askLongWords() {
        faultBehind("page sevenab", 1, 11);
        faultBehind("page sevenabcdef;", 1, 11);
        faultBehind("stepsxyz 1;", 1, 6);
        faultBehind("step abcdefg;", 1, 11);
        faultBehind("step 00001;", 1, 9);
        faultBehind("step 99999;", 1, 9);
        faultBehind("drifts 12345;", 1, 11);
        faultBehind("drifts 1 abcdefgh;", 1, 15);
        faultBehind("drifts 1 23456;", 1, 13);
        faultBehind("12345", 1, 4);
        faultBehind("page 12345", 1, 9);
        goodBehind("page sixabc;", 2);
        goodBehind("drifts 9999;", 2);
        goodBehind("step 0001;", 2);
        fault("fieldxyz 3", 1, 6);
        faultBehind("drifts 1;driftsx 1;", 1, 15);
    }

    private static void askSideBySide() {
        fault("field3", 1, 5);
        fault("field 3poly 11", 1, 7);
        fault("field 9poly 11", 4, 6);
        faultBehind("step5;", 1, 4);
        faultBehind("page a1;", 1, 6);
        faultBehind("drifts1;", 1, 6);
        faultBehind("tries 1<2and 1<3;", 1, 9);
        faultBehind("tries not1<2;", 1, 9);
        faultBehind("tries 1<2 or1<3;", 1, 12);
        goodBehind("tries 1<2 and 1<3;", 2);
        goodBehind("tries not[all]and[all]or all;", 2);
        goodBehind("drifts(1)+min(1,2);", 2);
        goodBehind("tries[all];", 2);
        goodBehind("step\n5;", 2);
        goodBehind("  step  5\n ;\n\n", 2);
    }

    private static void askOpen() {
        goodBehind("drifts (((((((1)))))));", 2);
        faultBehind("drifts ((((((((1", 5, 14);
        goodBehind("drifts (((((((1)))))))+(((((((1)))))));", 2);
        goodBehind("drifts ((((((min(1,2)))))));", 2);
        faultBehind("drifts (((((((min(1,2)", 5, 17);
        faultBehind("drifts (((((((max(1,2)", 5, 17);
        faultBehind("drifts (((((((if(all,1,2)", 5, 16);
        faultBehind("drifts (((((((min 1", 1, 18);
        goodBehind("tries [[[[[[[all]]]]]]];", 2);
        faultBehind("tries [[[[[[[[all", 5, 13);
        goodBehind("tries not not not not not not not all;", 2);
        faultBehind("tries not not not not not not not not all;", 5, 34);
        goodBehind("tries not all and not all and not all or not all or not all and not all and not all and not all and"
                + " not all;", 2);
        goodBehind("tries not [not [not [not all]]];", 2);
        faultBehind("tries not [not [not [not (1)<2]]];", 5, 25);
        faultBehind("tries not [not [not [not [all]]]];", 5, 25);
        goodBehind("tries not not not [[[1<(2)]]];", 2);
        faultBehind("tries not not not [[[[(1)<2", 5, 22);
        goodBehind("tries not not not not not not not 1<2 and [[[[[[[(1)<2]]]]]]];".replace("(1)", "1"), 2);
        faultBehind("tries [[[[[[[not all", 5, 13);
        goodBehind("drifts if([[[[[[1<2]]]]]],1,2);", 2);
        faultBehind("drifts if([[[[[[(1)<2]]]]]],1,2);", 5, 16);
        String six = "((((((1))))))";
        for (String text : new String[] {"1+(#)", "1*(#)", "1/2%(#)-(#)", "min(#,1)", "max(1,#)", "if(all,#,1)", "if(1<2,1,#)",
            "if(#<1,1,1)", "if(1=#,1,1)", "min(#,#)*if(all,#,#)"}) {
            goodBehind("drifts " + text.replace("#", six) + ";", 2);
            int place = 7 + text.indexOf("#") + 6;
            faultBehind("drifts " + text.replaceFirst("#", "(" + six + ")").replace("#", "1") + ";", 5, place);
        }
        for (String text : new String[] {"1<(#)", "(#)>1", "all and[1=#]", "all or[1=#]", "not 1<#", "not#<1"}) {
            goodBehind("tries " + text.replace("#", six) + ";", 2);
            int place = 6 + text.indexOf("#") + 6;
            faultBehind("tries " + text.replaceFirst("#", "(" + six + ")") + ";", 5, place);
        }
        // A sign that may not stand there is no eighth one.
        faultBehind("drifts (((((((1(", 1, 15);
    }

    private static void askTooMany() {
        String sixPages = "page a;page b;page c;page d;page e;page f;";
        goodBehind(sixPages, 7);
        faultBehind(sixPages + "page g;", 6, 42);
        faultBehind(sixPages + "page", 6, 42);
        faultBehind(sixPages + " page a;", 6, 43);
        faultBehind("drifts 1;drifts 2;", 6, 9);
        faultBehind("tries all;step 1;tries all;", 6, 17);
        goodBehind("tries all;drifts 1;", 3);
        goodBehind("high 60;high 70;low 1;low 2;mid 3;mid 4;step 5;step 6;noise 7;noise 8;", 11);
        String many = "step 1;".repeat(39);
        goodBehind(many, 40);
        goodBehind(many + " \n", 40);
        faultBehind(many + "step 1;", 6, 273);
        faultBehind(many + " \nhigh", 6, 275);
        faultBehind(many + "page a;", 6, 273);
        faultBehind(many + "field 3", 6, 273);
        faultBehind("step 1;".repeat(38) + "steps", 1, 266);
    }

    private static void askGoodTexts() {
        good(FIELD, 1);
        good(" \n" + FIELD + "\n", 1);
        good("field 03 poly 0011 mends 001 short 0000;", 1);
        good("field\n3\npoly\n11\nmends\n1\nshort\n3\n;", 1);
        goodBehind("high 51;low 0;mid 1;step 1;noise 0;", 6);
        goodBehind("high 99;low 49;mid 99;step 20;noise 100;", 6);
        goodBehind("drifts day+page-cell*level/bit%age;tries tried<gap and gap>at or at=1;", 3);
        String long1600 = FIELD + "drifts 1" + "+1".repeat((1600 - FIELD.length() - 9) / 2) + ";";
        good(long1600 + " ".repeat(1600 - long1600.length()), 2);
    }

    private static void askPrimitive() {
        for (int m = 3; m <= 6; m++) {
            for (int poly = 0; poly < 300; poly++) {
                boolean isPrimitive = false;
                for (int good : Chips.PRIMITIVE[m - 3]) {
                    isPrimitive |= good == poly;
                }
                FlashPages x = new FlashPages();
                int answer = Check.chip(x, "field " + m + " poly " + poly + " mends 1 short 0;");
                CHECK.due("field " + m + " poly " + poly, answer, isPrimitive ? 1 : -1);
                CHECK.due("its fault", x.fault(0), isPrimitive ? 0 : 4);
                CHECK.due("its place", x.fault(1), isPrimitive ? -1 : 13);
            }
        }
    }

    /** Which t and S there are, by the degrees of the generators. */
    private static void askCodes() {
        int[][] degrees = {{3, 6, 6, 7, 7}, {4, 8, 10, 14, 14}, {5, 10, 15, 20, 20}, {6, 12, 18, 24, 27}};
        for (int m = 3; m <= 6; m++) {
            int n = (1 << m) - 1;
            for (int t = 1; t <= 5; t++) {
                int bits = n - degrees[m - 3][t - 1];
                for (int s = 0; s < 64; s++) {
                    FlashPages x = new FlashPages();
                    String text = "field " + m + " poly " + Chips.PRIMITIVE[m - 3][0] + " mends " + t + " short " + s + ";";
                    boolean isGood = s < bits;
                    CHECK.due(text, Check.chip(x, text), isGood ? 1 : -1);
                    CHECK.due("its fault: " + text, x.fault(0), isGood ? 0 : 4);
                    CHECK.due("N: " + text, x.has(0), isGood ? n : 0);
                    CHECK.due("R: " + text, x.has(1), isGood ? n - bits : 0);
                    CHECK.due("cells: " + text, x.has(2), isGood ? n - s : 0);
                    CHECK.due("DATA: " + text, x.has(3), isGood ? bits - s : 0);
                }
            }
        }
    }

    private static void askNames() {
        FlashPages x = Check.made(FIELD + "page abcxyz;page m;");
        int[] due = {1, 2, 3, 24, 25, 26};
        for (int k = 0; k < 6; k++) {
            CHECK.due("letter(0," + k + ")", x.letter(0, k), due[k]);
            CHECK.due("letter(1," + k + ")", x.letter(1, k), k == 0 ? 13 : 0);
        }
        CHECK.due("letter(0,6)", x.letter(0, 6), -1);
        CHECK.due("letter(0,-1)", x.letter(0, -1), -1);
        CHECK.due("letter(2,0)", x.letter(2, 0), -1);
        CHECK.due("letter(-1,0)", x.letter(-1, 0), -1);
        CHECK.due("has(4)", x.has(4), 2);
    }

    /** Of a chip before the last one nothing is left either, nor of one with a fault. */
    private static void askNothingLeft() {
        String all = "page a;high 90;low 10;mid 20;step 9;noise 90;tries not all;drifts 9";
        FlashPages x = Check.made(FIELD + all + ";");
        for (String text : new String[] {FIELD, FIELD + all + "#"}) {
            Check.chip(x, text);
        }
        CHECK.due("a plain chip", Check.chip(x, "field 5 poly 37 mends 3 short 4;page b;"), 2);
        x.write(0, 0, 345);
        CHECK.due("high", x.ones(0, 71), 0);
        CHECK.due("high and low", x.ones(0, 70), x.ones(0, 31));
        CHECK.due("low", x.ones(0, 30), 27);
        CHECK.due("no drifts", x.level(0, 0, 1), x.level(0, 0, 0));
        CHECK.due("mid", x.got(0, 2), 50);
        CHECK.due("no noise", x.chance(20), 0);
        for (int cell = 0; cell < 27; cell++) {
            if (x.level(0, cell, 0) == 30 && x.got(0, 0) >= 0 && x.ones(0, 50) < 22) {
                x.flip(0, cell);
            }
        }
        CHECK.due("8 tries", x.got(0, 1), 8);
        CHECK.due("by 3", x.got(0, 2), 71);
        String long1600 = FIELD + "page a;drifts 1" + "+1-1".repeat(380) + ";";
        for (int i = 0; i < 5; i++) {
            CHECK.due("a long chip", Check.chip(x, long1600), 3);
            x.write(0, 0, 1);
            CHECK.due("all of it", x.level(0, 0, 7), 77);
        }
    }

    /** A text with a FAULT changes nothing but goes; one without makes all as at first, but for the seed. */
    private static void askWhatStays() {
        FlashPages x = Check.made(FIELD + "page a;page b;noise 100;drifts 1;");
        x.seed(77);
        x.write(1, 0, 5);
        x.days(3);
        Check.feed(x, 50, 3);
        x.meet();
        x.image();
        int level = x.level(1, 0, 0);
        CHECK.due("a chip with a fault", Check.chip(x, "field 4 poly 19 mends 2 short 0;page c;foo"), -1);
        CHECK.due("fault(0)", x.fault(0), 1);
        CHECK.due("fault(1)", x.fault(1), 39);
        CHECK.due("has(0)", x.has(0), 7);
        CHECK.due("has(4)", x.has(4), 2);
        CHECK.due("letter(0,0)", x.letter(0, 0), 1);
        CHECK.due("has(5)", x.has(5), 1);
        CHECK.due("has(6)", x.has(6), 3);
        CHECK.due("has(7)", x.has(7), 1);
        CHECK.due("has(8)", x.has(8), 1);
        CHECK.due("has(9)", x.has(9), 2);
        CHECK.due("has(10)", x.has(10), 77);
        CHECK.due("level", x.level(1, 0, 0), level);
        CHECK.due("level ahead", x.level(1, 0, 2), level + 2);
        CHECK.due("the tape went", x.end(1), false);
        CHECK.due("a chip without one", Check.chip(x, "field 4 poly 19 mends 2 short 0;page c;"), 2);
        CHECK.due("fault(0)", x.fault(0), 0);
        CHECK.due("fault(1)", x.fault(1), -1);
        int[] due = {15, 8, 15, 7, 1, 0, 0, 0, 0, 0, 77};
        for (int what = 0; what < due.length; what++) {
            CHECK.due("has(" + what + ")", x.has(what), due[what]);
        }
        CHECK.due("the tape went", x.end(1), false);
        CHECK.due("page(0,0)", x.page(0, 0), 0);
        CHECK.due("undo()", x.undo(), false);
        CHECK.due("write", x.write(0, 0, 1), true);
        CHECK.due("level by 70", x.level(0, 8, 0), 70);
        CHECK.due("no drifts", x.level(0, 8, 9), 70);
        CHECK.due("no noise", x.chance(5), 0);
        CHECK.due("no shifts met", x.shifts(0, -1), 19);
        askNothingLeft();
    }
}
