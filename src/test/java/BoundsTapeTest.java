/** The boundary cases of the promises 1 to 3 and 39, sentence by sentence, and the 512 calls of an object. */
public final class BoundsTapeTest {
    private static final int BLANKS = 0x20202020;
    private static final Bounds B = new Bounds();

    public static void main(String[] args) {
        askLastCall();
        askConstants();
        askNewObject();
        askOrder();
        askFull();
        askFullByPieces();
        askEnd();
        askEndAlone();
        askStatusKinds();
        askStatusOthers();
        B.finish();
    }

    private static int feedBlanks(FlashPages x) {
        return x.feed(BLANKS, BLANKS, BLANKS, BLANKS, BLANKS);
    }

    private static void askLastCall() {
        B.of(Bounds.PREFACE, "An object is used for at most 512 calls after it has been made");
        FlashPages x = Check.made(Bounds.SMALL + "page a;page ab;");
        // Three feed(), end() and chip() are five calls.
        for (int i = 0; i < 505; i++) {
            x.write(i % 2, 0, i % 16);
        }
        B.due("the 511th call", x.has(7), 40);
        B.due("the 512th call", x.got(0, 5), 504 % 16);
    }

    private static void askConstants() {
        B.of(Bounds.CONSTANTS, "`NONE = -1`: None; refused.");
        B.due("NONE", FlashPages.NONE, -1);
        B.of(Bounds.CONSTANTS, "`NOTHING = -1000`: Told where NONE may be one.");
        B.due("NOTHING", FlashPages.NOTHING, -1000);
        FlashPages x = Check.made(Bounds.SMALL + "page a;");
        x.write(0, 0, 1);
        B.due("a shift of -1", x.shifts(0, 8), FlashPages.NONE);
        B.due("no shift", x.shifts(0, 19), FlashPages.NOTHING);
    }

    private static void askNewObject() {
        B.of(1, "No chip, no pages; the seed is 1.");
        FlashPages x = new FlashPages();
        for (int what = 0; what < 10; what++) {
            B.due("has(" + what + ")", x.has(what), 0);
        }
        B.due("the seed", x.has(10), 1);
        B.due("letter(0, 0)", x.letter(0, 0), -1);
        B.due("page(0, 0)", x.page(0, 0), -1);
        B.due("no tape", x.end(1), false);
    }

    private static void askOrder() {
        B.of(2, "Twenty bytes come behind those on the tape, of each number the highest first: how many there are");
        FlashPages x = new FlashPages();
        B.due("the first twenty", x.feed(0x6669656c, 0x64203320, 0x706f6c79, 0x20313120, 0x6d656e64), 20);
        B.due("twenty more", x.feed(0x73203120, 0x73686f72, 0x7420303b, 0x70616765, 0x20613b20), 40);
        B.due("chip()", x.chip(), 2);
        B.due("letter(0, 0)", x.letter(0, 0), 1);
        for (int place = 0; place < 20; place++) {
            int[] numbers = {BLANKS, BLANKS, BLANKS, BLANKS, BLANKS};
            int shift = 8 * (3 - place % 4);
            numbers[place / 4] = numbers[place / 4] & ~(255 << shift) | 255 << shift;
            x.feed(numbers[0], numbers[1], numbers[2], numbers[3], numbers[4]);
            x.chip();
            B.due("the place of byte " + place, x.fault(1), place);
        }
    }

    private static void askFull() {
        B.of(2, "NONE, refused (0), if there would be more than 1600.");
        FlashPages x = new FlashPages();
        for (int i = 1; i <= 80; i++) {
            B.due("feed number " + i, feedBlanks(x), 20 * i);
        }
        B.due("status(0) of a full tape", x.status(0), 0);
        B.due("one more", x.feed(-1, -1, -1, -1, -1), -1);
        B.due("status(0)", x.status(0), 1);
        B.due("all 1600 are there", x.end(1600), true);
        B.due("and no more", x.end(1601), false);
        x.chip();
        B.due("none of the refused bytes", x.fault(1), 1600);
        B.due("behind chip() it is empty", feedBlanks(x), 20);
    }

    private static void askFullByPieces() {
        B.of(2, "NONE, refused (0), if there would be more than 1600.");
        for (int size : new int[] {1579, 1580, 1581, 1599}) {
            FlashPages x = new FlashPages();
            for (int i = 0; i < 80; i++) {
                feedBlanks(x);
            }
            x.end(size);
            B.due("feed behind " + size, x.feed(-1, -1, -1, -1, -1), size <= 1580 ? size + 20 : -1);
            B.due("status(0)", x.status(0), size <= 1580 ? 0 : 1);
            B.due("no piece of it stays", x.end(size + 1), size <= 1580);
        }
    }

    private static void askEnd() {
        B.of(3, "true; false, refused (0), if it has not so many, or n is below 0.");
        FlashPages x = new FlashPages();
        B.due("end(0) of an empty tape", x.end(0), true);
        B.due("status(0)", x.status(0), 0);
        B.due("end(1) of an empty tape", x.end(1), false);
        feedBlanks(x);
        int refused = 1;
        for (int n : new int[] {21, -1, Integer.MAX_VALUE, Integer.MIN_VALUE}) {
            refused++;
            B.due("end(" + n + ")", x.end(n), false);
            B.due("status(0)", x.status(0), refused);
            B.due("nothing went", x.end(20), true);
        }
        B.due("end(19)", x.end(19), true);
        B.due("end(20), one too many now", x.end(20), false);
        B.due("end(0)", x.end(0), true);
        B.due("it is empty", feedBlanks(x), 20);
    }

    private static void askEndAlone() {
        B.of(3, "The tape has its first n bytes alone");
        FlashPages x = new FlashPages();
        Check.feed(x, "field 3 poly 11 mends 1 short 0;page abc");
        x.end(38);
        x.feed(0x20202020, 0x3b202020, BLANKS, BLANKS, BLANKS);
        B.due("chip() of what was cut and fed again", x.chip(), 2);
        B.due("letter(0, 0)", x.letter(0, 0), 1);
        B.due("letter(0, 1)", x.letter(0, 1), 0);
        // What was cut away is not there any more, for no call that takes the tape.
        cut("page a", "b", 6);
        cut("page abcdef", "g", 11);
        cut("page abcde", "f;", 10);
        cut("low 1", "2;", 5);
        cut("drifts 1234", "5", 11);
        cut("drifts 1+d", "ay;", 9);
        cut("drifts 1+", "day;", 9);
        cut("low 1", ";", 5);
        cut("low 1 ", " ;", 6);
        Check.feed(x, 50, 3, 255, 255);
        x.end(2);
        B.due("chip() of two bytes", x.chip(), -1);
        B.due("its place", x.fault(1), 0);
        FlashPages y = Check.made(Bounds.SMALL + "page a;");
        Check.feed(y, 50, 3, 255, 255);
        y.end(2);
        B.due("meet() of two bytes", y.meet(), 1);
        Check.feed(y, 0, 0, 0, 20, 255, 255);
        y.end(4);
        B.due("on() of four bytes", y.on(), true);
    }

    /** A text of which the end was cut away: where its fault 1 is, behind the field. */
    private static void cut(String text, String end, int place) {
        FlashPages x = new FlashPages();
        Check.feed(x, Bounds.SMALL + text + end);
        x.end(Bounds.SMALL.length() + text.length());
        B.due("chip() of " + text, x.chip(), -1);
        B.due("its fault", x.fault(0), 1);
        B.due("its place", x.fault(1), Bounds.SMALL.length() + place);
    }

    private static void askStatusKinds() {
        B.of(39, "How many were refused: 0 feed(), end(); 1 chip(); 2 days(), chance(); 3 write(), erase(), flip(), refresh(); 4 undo(); 5 seed(), meet(), on().");
        FlashPages x = new FlashPages();
        int[] due = new int[6];
        for (int call = 0; call < 12; call++) {
            int kind = refuse(x, call);
            due[kind]++;
            for (int what = 0; what < 6; what++) {
                B.due("status(" + what + ") behind refused call " + call, x.status(what), due[what]);
            }
        }
        for (int i = 0; i < 80; i++) {
            feedBlanks(x);
        }
        feedBlanks(x);
        B.due("status(0) behind feed()", x.status(0), due[0] + 1);
    }

    /** Its kind. */
    private static int refuse(FlashPages x, int call) {
        switch (call) {
            case 0: x.end(-1); return 0;
            case 1: x.chip(); return 1;
            case 2: x.days(1); return 2;
            case 3: x.chance(1); return 2;
            case 4: x.write(0, 0, 0); return 3;
            case 5: x.erase(0); return 3;
            case 6: x.flip(0, 0); return 3;
            case 7: x.refresh(0); return 3;
            case 8: x.undo(); return 4;
            case 9: x.seed(-1); return 5;
            case 10: x.meet(); return 5;
            default: x.on(); return 5;
        }
    }

    private static void askStatusOthers() {
        B.of(39, "NONE for others.");
        FlashPages x = new FlashPages();
        for (int what : new int[] {-1, 6, Integer.MIN_VALUE, Integer.MAX_VALUE}) {
            B.due("status(" + what + ")", x.status(what), -1);
        }
        for (int what = 0; what < 6; what++) {
            B.due("status(" + what + ") at first", x.status(what), 0);
        }
    }
}
