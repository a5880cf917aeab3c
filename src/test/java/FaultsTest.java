import java.util.ArrayList;
import java.util.List;
import java.util.Random;
import java.util.regex.Matcher;
import java.util.regex.Pattern;

/** Promises 4 and 5: texts good and spoiled at random, their FAULTS and places against those of Grammar. */
public final class FaultsTest {
    private static final String[] PIECES = {"field", "poly", "mends", "short", "page", "high", "low", "mid", "step", "noise", "drifts", "tries", "day",
        "cell", "level", "bit", "age", "tried", "gap", "at", "if", "or", "and", "not", "all", "min", "max", "(", ")", "[", "]", "<", ">", "=", "+", "-", "*",
        "/", "%", ",", ";", " ", "\n", "0", "1", "2", "5", "30", "50", "51", "99", "100", "9999", "12345", "a", "b", "abcdef", "abcdefg", "A", "#", "not not",
        "((", "[[", "page a;", "low 1;", "drifts 1;", "tries all;"};
    private static final Check CHECK = new Check();
    private static final int[] MET = new int[7];

    public static void main(String[] args) {
        Random random = new Random(7);
        for (int i = 0; i < 6000; i++) {
            ask(spoiledPieces(random, i));
            ask(spoiledBytes(random, i));
            ask(deep(random));
            ask(many(random));
        }
        for (int fault : new int[] {0, 1, 2, 4, 5, 6}) {
            CHECK.due("fault " + fault + " was met, " + MET[fault], MET[fault] > 100, true);
        }
        CHECK.finish();
    }

    private static void ask(String text) {
        if (text.length() > 1600) {
            return;
        }
        Grammar due = new Grammar(text);
        FlashPages x = new FlashPages();
        CHECK.due("chip() of " + text, Check.chip(x, text), due.fault == 0 ? due.statements : -1);
        CHECK.due("fault(0) of " + text, x.fault(0), due.fault);
        CHECK.due("fault(1) of " + text, x.fault(1), due.faultPlace);
        MET[due.fault]++;
    }

    private static List<String> pieces(String text) {
        List<String> all = new ArrayList<>();
        Matcher piece = Pattern.compile("[a-z]+|[0-9]+|(?s:.)").matcher(text);
        while (piece.find()) {
            all.add(piece.group());
        }
        return all;
    }

    /** Words, numbers, signs put in, left out, changed, said twice. */
    private static String spoiledPieces(Random random, int number) {
        List<String> all = pieces(new Chips(number % 900).text());
        int changes = random.nextInt(4);
        for (int k = 0; k < changes && !all.isEmpty(); k++) {
            int at = random.nextInt(all.size());
            String piece = PIECES[random.nextInt(PIECES.length)];
            switch (random.nextInt(5)) {
                case 0: all.set(at, piece); break;
                case 1: all.remove(at); break;
                case 2: all.add(at, piece); break;
                case 3: all.add(random.nextInt(all.size()), all.get(at)); break;
                default: all.add(at, " " + piece + " "); break;
            }
        }
        return String.join("", all);
    }

    private static String spoiledBytes(Random random, int number) {
        StringBuilder text = new StringBuilder(new Chips(number % 900).text());
        int changes = 1 + random.nextInt(2);
        for (int k = 0; k < changes && text.length() > 0; k++) {
            int at = random.nextInt(text.length());
            char sign = random.nextInt(4) == 0 ? (char) random.nextInt(256) : "az09 ;()[],<=+\n".charAt(random.nextInt(15));
            switch (random.nextInt(4)) {
                case 0: text.setCharAt(at, sign); break;
                case 1: text.deleteCharAt(at); break;
                case 2: text.setLength(at); break;
                default: text.insert(at, sign); break;
            }
        }
        return text.toString();
    }

    /** Terms that open about as many as may be open. */
    private static String deep(Random random) {
        String text = random.nextBoolean() ? "drifts #S" : "tries #T";
        String value = text.startsWith("d") ? "cell" : "gap";
        int left = 5 + random.nextInt(14);
        while (text.contains("#")) {
            int at = text.indexOf('#');
            boolean isSum = text.charAt(at + 1) == 'S';
            String[] sums = {"(#S)", "min(#S,1)", "max(2,#S)", "if(#T,1,2)", "if(all,#S,2)", "if(1<2,3,#S)", "1+#S", "#S*2", "#S-#S"};
            String[] tests = {"not #T", "[#T]", "#S<1", "2>#S", "#T and #T", "#T or all", "not[#T]", "[not #T]"};
            String piece = left <= 0 ? isSum ? value : "all" : isSum ? sums[random.nextInt(sums.length)] : tests[random.nextInt(tests.length)];
            left--;
            text = text.substring(0, at) + piece + text.substring(at + 2);
        }
        return "field 3 poly 11 mends 1 short 0;" + text + ";";
    }

    /** About as many statements as there may be. */
    private static String many(Random random) {
        StringBuilder text = new StringBuilder("field 3 poly 11 mends 1 short 0;");
        int count = 30 + random.nextInt(14);
        for (int i = 0; i < count; i++) {
            switch (random.nextInt(40)) {
                case 0: text.append("page ").append((char) ('a' + random.nextInt(26))).append(';'); break;
                case 1: text.append("drifts 1;"); break;
                case 2: text.append("tries all;"); break;
                default: text.append(random.nextBoolean() ? "low 1; " : "step 2;"); break;
            }
        }
        int pages = random.nextInt(3) == 0 ? random.nextInt(9) : 0;
        for (int i = 0; i < pages; i++) {
            text.insert(32, "page p" + (char) ('a' + random.nextInt(20)) + ";");
        }
        return text.append(random.nextInt(4) == 0 ? PIECES[random.nextInt(PIECES.length)] : "").toString();
    }
}
