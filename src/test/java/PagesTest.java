/** Promises 13 to 23: what is told of pages, by hand-made ones. */
public final class PagesTest {
    private static final String SMALL = "field 3 poly 11 mends 1 short 0;";
    private static final String WIDE = "field 5 poly 37 mends 3 short 4;page a;page b;";
    private static final Check CHECK = new Check();

    public static void main(String[] args) {
        askPage();
        askLevels();
        askTerms();
        askReads();
        askCauses();
        askGetting();
        askTries();
        askFortyReads();
        askSpan();
        askLost();
        askOdds();
        CHECK.finish();
    }

    private static void askPage() {
        FlashPages x = Check.made(SMALL + "page a;page b;");
        CHECK.due("page(0,0)", x.page(0, 0), 0);
        CHECK.due("page(0,1)", x.page(0, 1), 0);
        CHECK.due("page(0,2)", x.page(0, 2), 0);
        CHECK.due("page(0,3)", x.page(0, 3), -1);
        CHECK.due("page(0,-1)", x.page(0, -1), -1);
        CHECK.due("page(2,0)", x.page(2, 0), -1);
        CHECK.due("page(-1,0)", x.page(-1, 0), -1);
        x.write(1, 0, 15);
        x.days(4);
        CHECK.due("page(1,0)", x.page(1, 0), 1);
        CHECK.due("page(1,1)", x.page(1, 1), 4);
        CHECK.due("page(1,2)", x.page(1, 2), 7);
        for (int i = 0; i < 3; i++) {
            x.days(40);
        }
        CHECK.due("99 DAYS at most", x.page(1, 1), 99);
        CHECK.due("the DAY goes on", x.has(6), 124);
    }

    private static void askLevels() {
        FlashPages x = Check.made(SMALL + "page a;page b;high 90;low 3;drifts if(bit=1,2+page,0-1);");
        x.write(1, 0, 1);
        CHECK.due("high now", x.level(1, 0, 0), 90);
        CHECK.due("high in 3", x.level(1, 0, 3), 99);
        CHECK.due("high in 2", x.level(1, 0, 2), 96);
        CHECK.due("low in 3", x.level(1, 2, 3), 0);
        CHECK.due("low in 40", x.level(1, 2, 40), 0);
        CHECK.due("in 41", x.level(1, 2, 41), -1);
        CHECK.due("in -1", x.level(1, 2, -1), -1);
        CHECK.due("cell 7", x.level(1, 7, 0), -1);
        CHECK.due("cell -1", x.level(1, -1, 0), -1);
        CHECK.due("not written", x.level(0, 0, 0), -1);
        for (int i = 0; i < 24; i++) {
            x.days(40);
        }
        CHECK.due("DAY", x.has(6), 960);
        CHECK.due("in 39", x.level(1, 2, 39), 0);
        CHECK.due("beyond 999", x.level(1, 2, 40), -1);
        CHECK.due("days beyond", x.days(40), -1);
        CHECK.due("days to 999", x.days(39), 1);
        CHECK.due("DAY", x.has(6), 999);
        CHECK.due("now", x.level(1, 2, 0), 0);
        CHECK.due("the next one", x.level(1, 2, 1), -1);
        CHECK.due("chance", x.chance(1), -1);
        CHECK.due("odds at 999", x.odds(1), -1);
        CHECK.due("all odds at 999", x.odds(-1), -1);
        CHECK.due("lost at 999", x.lost(1), -1);
        x.flip(1, 2);
        x.flip(1, 4);
        CHECK.due("lost at 999, now", x.lost(1), 0);
    }

    /** What one SUM gives, seen as the drift of cell 0 of page b on a day, from level 50 on. */
    private static void sum(String text, int due) {
        FlashPages x = Check.made(SMALL + "page a;page b;high 60;low 40;drifts " + text + ";");
        x.days(5);
        x.write(1, 0, 1);
        CHECK.due(text, x.level(1, 0, 1), Math.max(0, Math.min(99, 60 + due)));
    }

    private static void askTerms() {
        sum("7", 7);
        sum("day", 5);
        sum("page", 1);
        sum("bit", 1);
        sum("level-50", 10);
        sum("cell+3", 3);
        sum("age", 0);
        sum("20-5-3", 12);
        sum("20-(5-3)", 18);
        sum("2+3*4", 14);
        sum("100/7*2", 28);
        sum("100/(7*2)", 7);
        sum("17%5*2", 4);
        sum("7/2", 3);
        sum("(0-7)/2", -4);
        sum("7/(0-2)", -4);
        sum("(0-7)/(0-2)", 3);
        sum("(0-7)%2", 1);
        sum("7%(0-2)", -1);
        sum("(0-7)%(0-2)", -1);
        sum("7/0", 0);
        sum("7%0", 0);
        sum("5/0+3", 3);
        sum("9999*9999/9999-80", 20);
        sum("(0-9999)*9999/9999+80", -21);
        sum("9999*100+9999-9999*100-80", 20);
        sum("9999*9999/9000/10", 11);
        sum("9999*9999-9999*100-80", 20);
        sum("0-9999*9999+9999*100+80", -20);
        sum("min(3,8)", 3);
        sum("max(3,8)", 8);
        sum("min(0-3,8)*2", -6);
        sum("if(1<2,3,4)", 3);
        sum("if(2<2,3,4)", 4);
        sum("if(2>2,3,4)", 4);
        sum("if(3>2,3,4)", 3);
        sum("if(2=2,3,4)", 3);
        sum("if(2=3,3,4)", 4);
        sum("if(all,3,4)", 3);
        sum("if(not all,3,4)", 4);
        sum("if(not 1<2 or all,3,4)", 3);
        sum("if(not[1<2 or all],3,4)", 4);
        sum("if(all or all and 1>2,3,4)", 3);
        sum("if([all or all]and 1>2,3,4)", 4);
        sum("if(not not all,3,4)", 3);
        sum("if(if(1<2,1,0)=1,3,4)", 3);
        sum("1+if(day=5 and page=1 and level=60 and bit=1 and cell=0,3,4)", 4);
        sum("1" + "+1".repeat(30) + "-1".repeat(20), 11);
        sum("min(1,max(2,min(3,max(4,min(5,6)))))+if(1+1*2=3,min(1,2)+2*3,9)", 8);
        FlashPages x = Check.made(SMALL + "page a;drifts age*10+day;");
        x.days(2);
        x.write(0, 0, 0);
        CHECK.due("age ahead of the DAY", x.level(0, 0, 1), 32);
        CHECK.due("age on the next", x.level(0, 0, 2), 45);
    }

    private static void askReads() {
        FlashPages x = Check.made(SMALL + "page a;page b;");
        x.write(0, 0, 1);
        CHECK.due("ones at 30", x.ones(0, 30), 7);
        CHECK.due("ones at 31", x.ones(0, 31), 3);
        CHECK.due("ones at 0", x.ones(0, 0), 7);
        CHECK.due("ones at 100", x.ones(0, 100), 0);
        CHECK.due("ones at -1", x.ones(0, -1), -1);
        CHECK.due("ones at 101", x.ones(0, 101), -1);
        CHECK.due("not written", x.ones(1, 50), -1);
        x.flip(0, 5);
        CHECK.due("syndrome 1", x.syndrome(0, 50, 1), 7);
        CHECK.due("syndrome 2", x.syndrome(0, 50, 2), 3);
        CHECK.due("syndrome 0", x.syndrome(0, 50, 0), -1);
        CHECK.due("syndrome 3", x.syndrome(0, 50, 3), -1);
        CHECK.due("syndrome at 101", x.syndrome(0, 101, 1), -1);
        CHECK.due("syndrome, not written", x.syndrome(1, 50, 1), -1);
        CHECK.due("L", x.locator(0, 50, 0), 1);
        CHECK.due("c 1", x.locator(0, 50, 1), 7);
        CHECK.due("c 2", x.locator(0, 50, 2), -1);
        CHECK.due("c -1", x.locator(0, 50, -1), -1);
        CHECK.due("locator at -1", x.locator(0, -1, 0), -1);
        CHECK.due("locator, not written", x.locator(1, 50, 0), -1);
        CHECK.due("wrong", x.wrong(0, 50, -1), 1);
        CHECK.due("the first", x.wrong(0, 50, 0), 5);
        CHECK.due("the second", x.wrong(0, 50, 1), -1);
        CHECK.due("wrong(-2)", x.wrong(0, 50, -2), -1);
        CHECK.due("wrong, not written", x.wrong(1, 50, -1), -1);
        CHECK.due("why", x.why(0, 50), 0);
        CHECK.due("why at 101", x.why(0, 101), -1);
        CHECK.due("why, not written", x.why(1, 50), -1);
        // The same bits mean something else to the next chip.
        x.write(0, 0, 0);
        x.flip(0, 3);
        CHECK.due("syndrome by 11", x.syndrome(0, 50, 1), 3);
        Check.chip(x, SMALL.replace("11", "13") + "page a;");
        x.write(0, 0, 0);
        x.flip(0, 3);
        CHECK.due("syndrome by 13", x.syndrome(0, 50, 1), 5);
    }

    /** Every cause is met, and all that is told by it is as the model has it. */
    private static void askCauses() {
        boolean[] seen = new boolean[4];
        Model.Told told = new Model.Told();
        told.m = 5;
        told.poly = 37;
        told.t = 3;
        told.s = 4;
        told.names.add("a");
        told.names.add("b");
        Model model = new Model(told);
        FlashPages x = Check.made(WIDE);
        x.write(0, 0, 345);
        model.write(0, 0, 345);
        for (int i = 0; i < 60; i++) {
            int cell = i * 11 % 27;
            x.flip(0, cell);
            model.flip(0, cell);
            int cause = x.why(0, 50);
            CHECK.due("why", cause, model.why(0, 50));
            if (cause >= 0 && cause < 4) {
                seen[cause] = true;
            }
            for (int k = -2; k <= 7; k++) {
                CHECK.due("locator " + k, x.locator(0, 50, k), model.locator(0, 50, k));
                CHECK.due("wrong " + k, x.wrong(0, 50, k), model.wrong(0, 50, k));
                CHECK.due("syndrome " + k, x.syndrome(0, 50, k), model.syndrome(0, 50, k));
                CHECK.due("got " + k, x.got(0, k), model.got(0, k));
            }
        }
        CHECK.due("cause 0 was met", seen[0], true);
        CHECK.due("cause 2 was met", seen[2], true);
        CHECK.due("cause 3 was met", seen[3] || askShortened(), true);
        CHECK.due("cause 1 was met", seen[1] || askLongLocators(), true);
    }

    private static boolean askShortened() {
        FlashPages x = Check.made(SMALL.replace("short 0", "short 3") + "page a;");
        boolean met = false;
        x.write(0, 0, 1);
        for (int cell = 1; cell < 4; cell++) {
            x.flip(0, 0);
            x.flip(0, cell);
            if (x.why(0, 50) == 3) {
                met = true;
                CHECK.due("L of cause 3", x.locator(0, 50, 0), 1);
                CHECK.due("wrong of cause 3", x.wrong(0, 50, -1), -1);
                CHECK.due("lost by it", x.got(0, 4), 3);
            }
            x.flip(0, 0);
            x.flip(0, cell);
        }
        return met;
    }

    private static boolean askLongLocators() {
        FlashPages x = Check.made("field 6 poly 67 mends 2 short 0;page a;");
        boolean met = false;
        x.write(0, 0, 0);
        x.flip(0, 0);
        x.flip(0, 1);
        for (int cell = 2; cell < 63; cell++) {
            x.flip(0, cell);
            if (x.why(0, 50) == 1) {
                met = true;
                CHECK.due("L is above t", x.locator(0, 50, 0) > 2, true);
                CHECK.due("c 1 is not told", x.locator(0, 50, 1), -1);
                CHECK.due("wrong is not told", x.wrong(0, 50, -1), -1);
            }
            x.undo();
        }
        return met;
    }

    private static void askGetting() {
        FlashPages x = Check.made("field 6 poly 67 mends 1 short 0;page a;page b;");
        CHECK.due("DATA", x.has(3), 57);
        int high = (1 << 27) - 3;
        int low = (1 << 30) - 7;
        CHECK.due("write", x.write(0, high, low), true);
        x.flip(0, 62);
        int[] due = {1, 1, 50, 1, 0, low, high, -1};
        for (int what = 0; what < due.length; what++) {
            CHECK.due("got(0," + what + ")", x.got(0, what), due[what]);
        }
        CHECK.due("got(0,-1)", x.got(0, -1), -1);
        CHECK.due("got(1,1)", x.got(1, 1), -1);
        CHECK.due("got(2,1)", x.got(2, 1), -1);
        x.flip(0, 61);
        CHECK.due("got, not TRUE", x.got(0, 3), 0);
        CHECK.due("no cause", x.got(0, 4), 0);
        CHECK.due("one mended wrongly", x.got(0, 0), 1);
    }

    /** A page of 15 ones of 27 whose levels all have risen: a read by mid has 27 of them, and is refused. */
    private static FlashPages risen(String rest, int by) {
        return shifted("drifts " + by + ";" + rest);
    }

    /** Its levels but 9 of the ones have fallen: a read by mid has these 9, and is refused. */
    private static FlashPages fallen(String rest, int by) {
        return shifted("drifts if(bit=0 or cell%2=0,0-" + by + ",0);" + rest);
    }

    private static FlashPages shifted(String rest) {
        FlashPages x = Check.made(WIDE + "high 60;low 40;" + rest);
        x.write(0, 0, 345);
        x.days(1);
        return x;
    }

    private static void askTries() {
        FlashPages x = fallen("", 15);
        CHECK.due("READS", x.got(0, 1), 3);
        CHECK.due("the last by", x.got(0, 2), 44);
        CHECK.due("TRUE", x.got(0, 3), 1);
        x = risen("", 15);
        CHECK.due("READS up", x.got(0, 1), 3);
        CHECK.due("up to", x.got(0, 2), 56);
        x = risen("step 2;", 15);
        CHECK.due("READS by 2", x.got(0, 1), 4);
        CHECK.due("up by 2 to", x.got(0, 2), 56);
        x = risen("step 1;", 20);
        CHECK.due("8 without tries", x.got(0, 1), 8);
        CHECK.due("lost", x.got(0, 3), 0);
        CHECK.due("lost by", x.got(0, 0), -1);
        CHECK.due("no DATA", x.got(0, 5), -1);
        CHECK.due("no DATA above", x.got(0, 6), -1);
        CHECK.due("a cause", x.got(0, 4) > 0, true);
        x = risen("step 1;tries tried<12;", 20);
        CHECK.due("as tries tells", x.got(0, 1), 12);
        CHECK.due("and got", x.got(0, 3), 1);
        x = risen("step 1;tries not all;", 20);
        CHECK.due("none again", x.got(0, 1), 1);
        x = risen("step 1;tries gap=12;", 20);
        CHECK.due("by the gap above", x.got(0, 1), 12);
        CHECK.due("got", x.got(0, 3), 1);
        x = risen("step 1;tries gap<12;", 20);
        CHECK.due("by a gap that is not so", x.got(0, 1), 1);
        x = risen("step 1;tries at<55;", 20);
        CHECK.due("by the threshold", x.got(0, 2), 55);
        x = fallen("step 1;tries gap=6;", 30);
        CHECK.due("by the gap below", x.got(0, 2), 30);
        CHECK.due("that is 21 READS", x.got(0, 1), 21);
        CHECK.due("ends got", x.got(0, 3), 1);
        // The next threshold has to be one of 1 .. 99.
        x = risen("mid 95;step 5;tries all;", 60);
        CHECK.due("up to 95", x.got(0, 2), 95);
        x = risen("mid 94;step 5;tries all;", 60);
        CHECK.due("up to 99", x.got(0, 2), 99);
        x = fallen("mid 5;step 5;tries all;", 70);
        CHECK.due("down to 5", x.got(0, 2), 5);
        x = fallen("mid 6;step 5;tries all;", 70);
        CHECK.due("down to 1", x.got(0, 2), 1);
    }

    private static void askFortyReads() {
        FlashPages x = risen("mid 1;step 1;tries all;", 20);
        CHECK.due("40 READS", x.got(0, 1), 40);
        CHECK.due("the last by 40", x.got(0, 2), 40);
        CHECK.due("lost", x.got(0, 0), -1);
        x = risen("mid 22;step 1;tries all;", 20);
        CHECK.due("the 40th is got", x.got(0, 1), 40);
        CHECK.due("by 61", x.got(0, 2), 61);
        CHECK.due("and TRUE", x.got(0, 3), 1);
    }

    private static void askSpan() {
        FlashPages x = Check.made(SMALL + "page a;page b;");
        x.write(0, 0, 1);
        CHECK.due("least", x.span(0, 0), 31);
        CHECK.due("greatest", x.span(0, 1), 70);
        CHECK.due("span(0,2)", x.span(0, 2), -1);
        CHECK.due("span(0,-1)", x.span(0, -1), -1);
        CHECK.due("not written", x.span(1, 0), -1);
        x = Check.made(SMALL + "page a;high 99;low 0;");
        x.write(0, 0, 1);
        CHECK.due("1 at the least", x.span(0, 0), 1);
        CHECK.due("99 at the most", x.span(0, 1), 99);
        x.write(0, 0, 0);
        x.flip(0, 0);
        x.flip(0, 1);
        CHECK.due("none", x.span(0, 0), -1);
        CHECK.due("none", x.span(0, 1), -1);
        x.undo();
        CHECK.due("one is mended", x.span(0, 0), 1);
    }

    private static void askLost() {
        FlashPages x = Check.made(SMALL + "page a;page b;drifts if(bit=1 and cell<2,0-1,0);step 20;tries not all;");
        x.write(0, 0, 1);
        CHECK.due("lost", x.lost(0), 21);
        x.days(20);
        CHECK.due("lost next", x.lost(0), 1);
        x.days(1);
        CHECK.due("lost now", x.lost(0), 0);
        CHECK.due("not written", x.lost(1), -1);
        x = Check.made(SMALL + "page a;drifts if(bit=1 and cell<2 and day=39,0-60,0);");
        x.write(0, 0, 1);
        CHECK.due("lost on the 40th", x.lost(0), 40);
        x = Check.made(SMALL + "page a;drifts if(bit=1 and cell<2 and day=40,0-60,0);");
        x.write(0, 0, 1);
        CHECK.due("not lost till then", x.lost(0), -1);
        x.days(1);
        CHECK.due("a day on", x.lost(0), 40);
        // AHEAD goes to DAY 999 and no farther.
        x = Check.made(SMALL + "page a;page b;drifts if(bit=1 and cell<2 and age=8+page,0-60,0);");
        for (int i = 0; i < 24; i++) {
            x.days(40);
        }
        x.days(30);
        x.write(0, 0, 1);
        x.write(1, 0, 1);
        CHECK.due("lost on DAY 999", x.lost(0), 9);
        CHECK.due("lost a DAY later", x.lost(1), -1);
    }

    private static void askOdds() {
        FlashPages x = Check.made(SMALL + "page a;page b;noise 30;");
        x.write(0, 0, 1);
        CHECK.due("one more is mended", x.odds(0), 700);
        x.flip(0, 0);
        CHECK.due("two are not, but the same one", x.odds(0), 70 * 7 + 30);
        x.flip(0, 1);
        CHECK.due("one of two back", x.odds(0), 30 * 2);
        CHECK.due("all", x.odds(-1), 700);
        CHECK.due("not written", x.odds(1), -1);
        CHECK.due("none such", x.odds(2), -1);
        CHECK.due("none such", x.odds(-2), -1);
        x = Check.made(SMALL + "page a;noise 100;drifts if(cell<2,level*0-99,0);");
        x.write(0, 0, 1);
        CHECK.due("the DAY comes first", x.odds(0), 200);
        CHECK.due("nothing has gone by", x.has(6), 0);
        CHECK.due("no draws", x.has(10), 1);
        CHECK.due("levels stay", x.level(0, 0, 0), 70);
    }
}
