/** The boundary cases of SUMS and TESTS (Terms I), sentence by sentence. */
public final class BoundsTermsTest {
    private static final Bounds B = new Bounds();

    public static void main(String[] args) {
        askMost();
        askLeast();
        askDivision();
        askRest();
        askByNothing();
        askOrder();
        askChoice();
        askSigns();
        askFacts();
        askDriftWords();
        askTriesWords();
        askEitherOrder();
        B.finish();
    }

    /** Whether a TEST holds, in the drift of cell 3 of page 1 (DAY 5, age 2, bit 1, level 70 then). */
    private static boolean isSo(String test) {
        FlashPages x = Check.made(Bounds.SMALL + "page a;page b;drifts if(day<5,0,if(" + test + ",1,2));");
        x.days(3);
        x.write(1, 0, 1);
        x.days(2);
        int more = x.level(1, 3, 1) - 70;
        B.due(test + " is so or not", more == 1 || more == 2, true);
        return more == 1;
    }

    private static void so(String test) {
        B.due(test, isSo(test), true);
    }

    private static void notSo(String test) {
        B.due(test, isSo(test), false);
    }

    private static void askMost() {
        B.of(Bounds.TERMS_I, "each result above 10 to the 6 is that");
        so("999*1001+1=1000*1000");
        so("1000*1000-999*1001=1");
        so("1000*1000/1000=1000");
        so("1000*1001/1000=1000");
        so("9999*9999/1000=1000");
        so("9999*9999*9999=1000*1000");
        so("1000*1000+1=1000*1000");
        so("1000*1000+1-1=999*1001");
        so("1000*1000+9999-9999=1000*990+1");
        so("1000*1000-(0-1)=1000*1000");
        so("(0-1000)*(0-1001)/1000=1000");
        so("1000*1000*1000*1000*1000*1000*1000=1000*1000");
        notSo("1000*1000+1>1000*1000");
        notSo("999*1001=1000*1000");
    }

    private static void askLeast() {
        B.of(Bounds.TERMS_I, "below -10 to the 6 likewise");
        so("0-999*1001-1=0-1000*1000");
        so("0-999*1001>0-1000*1000");
        so("(0-1000)*1000/1000=0-1000");
        so("(0-1000)*1001/1000=0-1000");
        so("(0-9999)*9999/1000=0-1000");
        so("0-1000*1000-1=0-1000*1000");
        so("0-1000*1000-1+1=0-999*1001");
        so("0-1000*1000+(0-1)=0-1000*1000");
        so("1000*(0-1001)=0-1000*1000");
        so("(0-1000*1000)*1000*1000*1000=0-1000*1000");
        notSo("0-1000*1000-1<0-1000*1000");
    }

    private static void askDivision() {
        B.of(Bounds.TERMS_I, "/ gives the greatest whole number not above");
        so("7/2=3");
        so("8/2=4");
        so("(0-7)/2=0-4");
        so("(0-8)/2=0-4");
        so("(0-1)/2=0-1");
        so("7/(0-2)=0-4");
        so("(0-7)/(0-2)=3");
        so("1/(0-9999)=0-1");
        so("0/5=0");
        so("(0-1000*1000)/(0-1)=1000*1000");
        so("1000*1000/(0-1)=0-1000*1000");
        so("(0-999*1001)/9999=0-101");
    }

    private static void askRest() {
        B.of(Bounds.TERMS_I, "% what is left (a less b times that)");
        so("7%2=1");
        so("8%2=0");
        so("(0-7)%2=1");
        so("(0-8)%2=0");
        so("7%(0-2)=0-1");
        so("(0-7)%(0-2)=0-1");
        so("1%9999=1");
        so("(0-1)%9999=9998");
        so("1%(0-9999)=0-9998");
        so("5%5=0");
        so("5%1=0");
        so("5%(0-1)=0");
        // b times that may be beyond 10 to the 6.
        so("(0-999*1001)%9999=9900");
        so("1000*1000%(0-9999)=0-9899");
    }

    private static void askByNothing() {
        B.of(Bounds.TERMS_I, "by 0 both give 0");
        so("7/0=0");
        so("7%0=0");
        so("0/0=0");
        so("0%0=0");
        so("(0-7)/(1-1)=0");
        so("(0-7)%(1-1)=0");
        so("5+7/0*3=5");
        so("if(1>2,1/0,3)=3");
    }

    private static void askOrder() {
        B.of(Bounds.TERMS_I, "All from the left on");
        so("9-5-3=1");
        so("9-5+3=7");
        so("9-(5-3)=7");
        so("100/7*2=28");
        so("100*2/7=28");
        so("100/7%3=2");
        so("100%7*2=4");
        so("2+3*4=14");
        so("(2+3)*4=20");
        so("1=2 and 1=1 or 1=1");
        so("1=1 or 1=1 and 1=2");
        notSo("[1=1 or 1=1]and 1=2");
    }

    private static void askChoice() {
        B.of(Bounds.TERMS_I, "(the first SUM where the TEST holds, else the second one)");
        so("if(1<2,3,4)=3");
        so("if(2<1,3,4)=4");
        so("if(if(1<2,3,4)=3,5,6)=5");
        so("1+if(2<1,3,4*2)*2=17");
        so("min(3,4)=3");
        so("min(4,3)=3");
        so("max(3,4)=4");
        so("max(4,3)=4");
        so("min(5,5)=5");
        so("max(0-1,0-2)=0-1");
        so("min(0-1,0-2)=0-2");
    }

    private static void askSigns() {
        B.of(Bounds.TERMS_I, "SUM SIGN SUM, SIGN < or > or = .");
        so("1<2");
        notSo("2<2");
        notSo("3<2");
        so("3>2");
        notSo("2>2");
        notSo("1>2");
        so("2=2");
        notSo("2=3");
        so("0-1<0");
        so("1+1=4/2");
        for (String test : new String[] {"1<2", "2>1", "2=2"}) {
            so(test + " and all");
            so("all and " + test);
            so("not all or " + test);
            notSo("not " + test);
            so("not not " + test);
            so("if(" + test + ",5,6)=5");
        }
        for (String test : new String[] {"2<2", "2>2", "2=1"}) {
            notSo(test + " and all");
            notSo(test + " or not all");
            so("not " + test);
            so("if(" + test + ",5,6)=6");
        }
    }

    private static void askFacts() {
        B.of(Bounds.TERMS_I, "TEST: BOTH { or BOTH }. BOTH: FACT { and FACT }. FACT: not FACT; [ TEST ] ; all;");
        so("all");
        notSo("not all");
        so("not not all");
        so("not 1=2");
        notSo("not all or 1=2");
        so("not[1=2 or 1=3]");
        notSo("not[1=1 or 1=3]");
        so("not 1=2 and all");
        notSo("not all and all");
        so("1=2 or 1=2 or 1=1");
        notSo("1=1 and 1=1 and 1=2");
        notSo("not[not[1=2]]");
    }

    private static void askDriftWords() {
        B.of(Bounds.TERMS_I, "(The DAY; numbers of PAGE, cell; the level; the bit that was written; for how many DAYS it has been written;");
        so("day=5");
        so("page=1");
        so("cell=3");
        so("level=70");
        so("bit=1");
        so("age=2");
        // The bit that was written, whatever the level is.
        FlashPages x = Check.made(Bounds.SMALL + "page a;drifts bit*5;");
        x.write(0, 0, 1);
        x.flip(0, 3);
        B.due("a flipped one", x.level(0, 3, 1), 34);
        x.flip(0, 2);
        B.due("a flipped zero", x.level(0, 2, 1), 69);
    }

    private static void askTriesWords() {
        B.of(Bounds.TERMS_I, "how often it was READ in this, how far ones are from those wanted, the threshold by which it was READ last.)");
        // Cells 0 and 2 read as ones where none is wanted: the place 6 is told, no cell.
        B.due("tried 1", reads("tried=1"), 2);
        B.due("tried 2", reads("tried<3"), 3);
        B.due("not 0", reads("tried=0"), 1);
        B.due("gap", reads("gap=2 and tried<4"), 4);
        B.due("at 50", reads("at=50"), 2);
        B.due("at 50, 51", reads("at<52"), 3);
        // Two ones where three are wanted: how far has no sign.
        FlashPages x = Check.made(Bounds.TINY + "page a;step 1;tries gap=1 and tried<4;");
        x.write(0, 0, 1);
        x.flip(0, 0);
        x.flip(0, 1);
        x.flip(0, 2);
        B.due("refused", x.why(0, 50) > 0, true);
        B.due("fewer than wanted", x.got(0, 1), 4);
    }

    private static void askEitherOrder() {
        B.of(Bounds.TERMS_I, "drifts SUM, tries TEST (one each)");
        for (String both : new String[] {"drifts 5-2;tries tried<3;", "tries tried<3;drifts 5-2;"}) {
            FlashPages x = Check.made(Bounds.TINY + "page a;step 1;" + both);
            x.write(0, 0, 0);
            B.due("drifts of " + both, x.level(0, 0, 2), 36);
            x.flip(0, 0);
            x.flip(0, 2);
            B.due("tries of " + both, x.got(0, 1), 3);
        }
    }

    private static int reads(String test) {
        FlashPages x = Check.made(Bounds.TINY + "page a;step 1;tries " + test + ";");
        x.write(0, 0, 0);
        x.flip(0, 0);
        x.flip(0, 2);
        return x.got(0, 1);
    }
}
