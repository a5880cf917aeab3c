import java.io.IOException;
import java.nio.file.Files;
import java.nio.file.Path;
import java.util.function.Supplier;
import java.util.function.ToLongFunction;

/**
 * Tests by sentences: of() names one that tells a boundary case, as the document has it, and what is asked
 * behind it belongs to it. A sentence that does not stand where it is said to stand is a wrong answer.
 */
final class Bounds {
    /** Where a sentence stands: a promise's number, or one of these. */
    static final int PREFACE = 0;
    static final int TERMS_I = 101;
    static final int TERMS_II = 102;
    static final int TERMS_III = 103;
    static final int CONSTANTS = 104;

    /** Hamming's code of 7 cells, 4 bits of DATA: DATA 1 is the WORD of the cells 0, 1, 3. */
    static final String SMALL = "field 3 poly 11 mends 1 short 0;";
    /** Of 4 cells, 1 bit of DATA: the WORDS are none, and 0, 1, 3. */
    static final String TINY = "field 3 poly 11 mends 1 short 3;";

    private final Check check = new Check();
    private final String document = text("../shared/DOC.md");
    private String sentence = "";

    private static String text(String path) {
        try {
            return Files.readString(Path.of(path));
        } catch (IOException e) {
            throw new IllegalStateException(e);
        }
    }

    void of(int where, String words) {
        sentence = "\"" + words + "\": ";
        check.due(sentence + "stands in the document", part(where).contains(words), true);
    }

    private String part(int where) {
        switch (where) {
            case PREFACE: return between("## What it is", "## The public face");
            case TERMS_I: return between("\nI. ", "\nII. ");
            case TERMS_II: return between("\nII. ", "\nIII. ");
            case TERMS_III: return between("\nIII. ", "\nThe constants:");
            case CONSTANTS: return between("\nThe constants:", "\n## ");
            default: return between("\n## Promise " + where + ":", "\n## ");
        }
    }

    private String between(String from, String to) {
        int start = document.indexOf(from);
        int end = start < 0 ? -1 : document.indexOf(to, start + from.length());
        return end < 0 ? "" : document.substring(start, end);
    }

    void due(String call, long got, long want) {
        check.due(sentence + call, got, want);
    }

    void due(String call, boolean got, boolean want) {
        check.due(sentence + call, got, want);
    }

    void same(String call, String got, String want) {
        check.due(sentence + call + " is " + got + " and not " + want, got.equals(want), true);
    }

    void finish() {
        check.finish();
    }

    // ---- texts

    void good(String text, int statements) {
        FlashPages x = new FlashPages();
        due("chip() of " + text, Check.chip(x, text), statements);
        due("fault(0) of " + text, x.fault(0), 0);
        due("fault(1) of " + text, x.fault(1), -1);
    }

    void fault(String text, int number, int place) {
        FlashPages x = new FlashPages();
        due("chip() of " + text, Check.chip(x, text), -1);
        due("fault(0) of " + text, x.fault(0), number);
        due("fault(1) of " + text, x.fault(1), place);
    }

    /** A good text with # where a number stands: from the least to the greatest it is taken, else fault 4 at it. */
    void range(String text, int least, int most) {
        int place = text.indexOf('#');
        for (int number : new int[] {least, least + 1, most - 1, most}) {
            FlashPages x = new FlashPages();
            due("chip() of " + text + " by " + number, Check.chip(x, text.replace("#", "" + number)) > 0, true);
        }
        for (int number : new int[] {least - 1, most + 1, 9999}) {
            if (number >= 0) {
                fault(text.replace("#", "" + number), 4, place);
            }
        }
    }

    // ---- calls that are refused

    /**
     * A call that is refused: its answer, that it is counted once and by its kind alone, and that all that can be
     * told of the object is what it is without the call. The tape goes only where it is told to go.
     */
    void refused(String call, int kind, long answer, Supplier<FlashPages> scene, ToLongFunction<FlashPages> made) {
        FlashPages x = scene.get();
        FlashPages y = scene.get();
        int[] before = new int[6];
        for (int what = 0; what < 6; what++) {
            before[what] = x.status(what);
        }
        due(call + ", refused", made.applyAsLong(x), answer);
        for (int what = 0; what < 6; what++) {
            due("status(" + what + ") behind " + call, x.status(what), before[what] + (what == kind ? 1 : 0));
        }
        if (call.startsWith("chip") || call.startsWith("meet") || call.startsWith("on")) {
            y.end(0);
        }
        same("all behind " + call, told(x), told(y));
    }

    /** Of a chip with acts, what is kept, what was met, and five bytes on the tape. */
    static FlashPages scene() {
        FlashPages x = Check.made(SMALL + "page a;page b;page c;noise 40;drifts if(bit=1,0-1-cell%2,page);tries tried<5;");
        x.write(0, 0, 9);
        x.write(2, 0, 1);
        x.flip(2, 4);
        x.days(3);
        x.refresh(2);
        x.seed(12345);
        x.chance(4);
        Check.feed(x, 60, 4, 40, 4);
        x.meet();
        x.image();
        x.flip(0, 6);
        Check.feed(x, 1, 2, 3, 4, 5);
        return x;
    }

    /** Puts bytes on a tape in place of what is there. */
    static void put(FlashPages x, int... bytes) {
        x.end(0);
        Check.feed(x, bytes);
    }

    /** A boolean answer as a number. */
    static long number(boolean answer) {
        return answer ? 1 : 0;
    }

    /** What an object tells, but for refusals and the latest chip()'s fault; the last ones asked change it. */
    static String told(FlashPages x) {
        StringBuilder all = new StringBuilder();
        for (int what = 0; what <= 10; what++) {
            all.append(x.has(what)).append(' ');
        }
        for (int k = 0; k < x.has(7); k++) {
            all.append(x.kept(k, 0)).append('/').append(x.kept(k, 1)).append('/').append(x.kept(k, 2)).append(' ');
        }
        for (int page = 0; page < x.has(4); page++) {
            all.append(x.letter(page, 0)).append(' ').append(x.got(page, 2)).append(' ').append(x.shifts(page, -1)).append(' ');
            all.append(x.lost(page)).append(' ').append(x.odds(page)).append(' ').append(x.tells(page, 1)).append(' ');
        }
        all.append("image ").append(x.octet(0)).append(' ').append(x.octet(1)).append(' ').append(x.octet(2)).append(' ');
        putImage(all, x);
        all.append("tape ").append(x.feed(0, 0, 0, 0, 0)).append(' ');
        while (x.undo()) {
            all.append("undone ").append(x.has(7)).append(' ');
            putImage(all, x);
        }
        return all.toString();
    }

    private static void putImage(StringBuilder all, FlashPages x) {
        int size = x.image();
        for (int k = 0; k < size; k++) {
            all.append(x.octet(k)).append(' ');
        }
    }
}
