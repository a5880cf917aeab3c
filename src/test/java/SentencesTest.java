import java.io.IOException;
import java.nio.file.Files;
import java.nio.file.Path;
import java.util.List;
import java.util.regex.Matcher;
import java.util.regex.Pattern;
import java.util.stream.Collectors;
import java.util.stream.Stream;

/**
 * The words by which the document names a boundary case, in the Terms and in each promise, all stand in a sentence
 * that a test of Bounds*Test.java quotes.
 */
public final class SentencesTest {
    private static final String EDGES = "NONE|NOTHING|[Rr]efused|REFUSED|at most|at least|\\.\\.|\\b(below|above|beyond|ahead of|alone|first|last|least"
            + "|greatest|latest)\\b|[Ww]ithout|no less|too many|too soon|\\(it goes\\)|stays|staying|mod ";
    private static final Check CHECK = new Check();

    public static void main(String[] args) throws IOException {
        String document = Files.readString(Path.of("../shared/DOC.md"));
        boolean[] quoted = new boolean[document.length()];
        int quotes = 0;
        for (Path path : boundsTests()) {
            Matcher call = Pattern.compile("B\\.of\\((?:Bounds\\.)?(\\w+), \"([^\"]*)\"\\);").matcher(Files.readString(path));
            while (call.find()) {
                mark(document, call.group(1), call.group(2), quoted);
                quotes++;
            }
        }
        CHECK.due("quotes, " + quotes, quotes > 100, true);
        askEdges(document, quoted);
        for (int promise = 1; promise <= 39; promise++) {
            int from = document.indexOf("\n## Promise " + promise + ":");
            int to = document.indexOf("\n## ", from + 1);
            boolean isQuoted = false;
            for (int i = from; i < to; i++) {
                isQuoted |= quoted[i];
            }
            CHECK.due("promise " + promise + " is quoted", isQuoted, true);
        }
        CHECK.finish();
    }

    private static List<Path> boundsTests() throws IOException {
        try (Stream<Path> all = Files.list(Path.of("src/test/java"))) {
            return all.filter(path -> path.getFileName().toString().matches("Bounds\\w*Test\\.java")).sorted().collect(Collectors.toList());
        }
    }

    private static void mark(String document, String where, String words, boolean[] quoted) {
        int from = document.indexOf(heading(where));
        int place = from < 0 ? -1 : document.indexOf(words, from);
        CHECK.due(words + " stands in the document", place >= 0, true);
        for (int i = place; i >= 0 && i < place + words.length(); i++) {
            quoted[i] = true;
        }
    }

    private static String heading(String where) {
        switch (where) {
            case "PREFACE": return "## What it is";
            case "TERMS_I": return "\nI. ";
            case "TERMS_II": return "\nII. ";
            case "TERMS_III": return "\nIII. ";
            case "CONSTANTS": return "\nThe constants:";
            default: return "\n## Promise " + where + ":";
        }
    }

    private static void askEdges(String document, boolean[] quoted) {
        int from = document.indexOf("\nI. ");
        int to = document.indexOf("\n## Not promised");
        Matcher edge = Pattern.compile(EDGES).matcher(document);
        int count = 0;
        for (boolean found = edge.find(from); found && edge.start() < to; found = edge.find()) {
            String around = document.substring(Math.max(0, edge.start() - 40), Math.min(document.length(), edge.end() + 40));
            CHECK.due("quoted: " + around.replace('\n', ' '), quoted[edge.start()], true);
            count++;
        }
        CHECK.due("edges, " + count, count > 150, true);
    }
}
