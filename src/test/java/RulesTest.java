import java.io.IOException;
import java.lang.reflect.Constructor;
import java.lang.reflect.Field;
import java.lang.reflect.Method;
import java.lang.reflect.Modifier;
import java.nio.file.Files;
import java.nio.file.Path;
import java.util.ArrayList;
import java.util.Arrays;
import java.util.List;
import java.util.TreeSet;
import java.util.regex.Matcher;
import java.util.regex.Pattern;

/** The face of the document, and those rules of LANGUAGE.md that can be seen by a look at the source. */
public final class RulesTest {
    private static final Check CHECK = new Check();
    private static final List<String> LIBRARY = List.of("Math.max", "Math.min", "Math.abs", "Math.floorDiv", "Math.floorMod",
            "Long.bitCount", "Integer.bitCount", "Arrays.fill", "Arrays.copyOf", "Arrays.copyOfRange", "System.arraycopy");

    public static void main(String[] args) throws IOException {
        String source = Files.readString(Path.of("src/main/java/FlashPages.java"));
        askFace(Files.readString(Path.of("../shared/DOC.md")));
        askMembers();
        String bare = bare(source);
        askWords(bare);
        askLibrary(bare);
        askStatics();
        askSizes(bare);
        CHECK.finish();
    }

    /** Without comments, texts and signs in quotes. */
    private static String bare(String source) {
        String code = source.replaceAll("(?s)/\\*.*?\\*/", " ").replaceAll("//[^\n]*", " ");
        return code.replaceAll("\"[^\"\n]*\"", "\"\"").replaceAll("'(\\\\.|[^'])'", "0");
    }

    private static void askFace(String document) {
        TreeSet<String> due = new TreeSet<>();
        Matcher line = Pattern.compile("(?m)^    public (int|boolean) (\\w+)\\(([^)]*)\\);$").matcher(document);
        while (line.find()) {
            int count = line.group(3).isEmpty() ? 0 : line.group(3).split(",").length;
            due.add(line.group(1) + " " + line.group(2) + " " + count);
        }
        TreeSet<String> got = new TreeSet<>();
        for (Method method : FlashPages.class.getDeclaredMethods()) {
            if (!Modifier.isPrivate(method.getModifiers())) {
                got.add(method.getReturnType() + " " + method.getName() + " " + method.getParameterCount());
                CHECK.due(method + " takes ints", Arrays.stream(method.getParameterTypes()).allMatch(t -> t == int.class), true);
                CHECK.due(method + " is public and no static", method.getModifiers(), Modifier.PUBLIC);
            }
        }
        CHECK.due("38 methods", due.size(), 38);
        CHECK.due("the face " + got, got.equals(due), true);
        CHECK.due("the class", FlashPages.class.getModifiers(), Modifier.PUBLIC | Modifier.FINAL);
        CHECK.due("constructors", FlashPages.class.getDeclaredConstructors().length, 1);
        CHECK.due("its modifiers", FlashPages.class.getDeclaredConstructors()[0].getModifiers(), Modifier.PUBLIC);
    }

    private static void askMembers() {
        TreeSet<String> open = new TreeSet<>();
        for (Field field : FlashPages.class.getDeclaredFields()) {
            if (!Modifier.isPrivate(field.getModifiers())) {
                open.add(field.getName());
            }
        }
        CHECK.due("open fields " + open, open.equals(new TreeSet<>(List.of("NONE", "NOTHING"))), true);
        TreeSet<String> face = new TreeSet<>();
        for (Method method : FlashPages.class.getDeclaredMethods()) {
            if (Modifier.isPublic(method.getModifiers())) {
                face.add(method.getName());
            }
        }
        for (Class<?> type : classes()) {
            if (type != FlashPages.class) {
                CHECK.due(type + " is static", Modifier.isStatic(type.getModifiers()), true);
            }
            for (Method method : type.getDeclaredMethods()) {
                boolean isOther = type != FlashPages.class || Modifier.isPrivate(method.getModifiers());
                CHECK.due("no other method bears " + method.getName(), isOther && face.contains(method.getName()), false);
                CHECK.due(method + " has seven parameters at most", method.getParameterCount() <= 7, true);
            }
            for (Constructor<?> constructor : type.getDeclaredConstructors()) {
                CHECK.due(constructor + " has seven parameters at most", constructor.getParameterCount() <= 7, true);
            }
            long fields = Arrays.stream(type.getDeclaredFields()).filter(f -> !Modifier.isStatic(f.getModifiers())).count();
            CHECK.due(type + " has twenty fields at most", fields <= 20, true);
        }
        CHECK.due("twelve classes at most", classes().size() <= 12, true);
    }

    private static List<Class<?>> classes() {
        List<Class<?>> all = new ArrayList<>(List.of(FlashPages.class));
        all.addAll(List.of(FlashPages.class.getDeclaredClasses()));
        return all;
    }

    private static void askWords(String bare) {
        for (String word : new String[] {"throw", "throws", "try", "catch", "finally", "synchronized", "assert", "package", "volatile",
            "native", "transient", "hashCode", "toString", "Object", "double", "float", "var", "yield"}) {
            CHECK.due("the word " + word, Pattern.compile("\\b" + word + "\\b").matcher(bare).find(), false);
        }
        CHECK.due("lambdas", bare.contains("->"), false);
        CHECK.due("method references", bare.contains("::"), false);
        CHECK.due("static blocks", Pattern.compile("static\\s*\\{").matcher(bare).find(), false);
        CHECK.due("joined texts", Pattern.compile("\"\"\\s*\\+|\\+\\s*\"\"").matcher(bare).find(), false);
        CHECK.due("endless loops", Pattern.compile("while\\s*\\(\\s*true|for\\s*\\([^;]*;\\s*;").matcher(bare).find(), false);
        CHECK.due("signs above 127", bare.chars().anyMatch(c -> c > 127), false);
        Matcher imports = Pattern.compile("import ([\\w.*]+);").matcher(bare);
        while (imports.find()) {
            boolean isListed = List.of("java.util.Arrays", "java.util.ArrayList", "java.util.List").contains(imports.group(1));
            CHECK.due("import " + imports.group(1), isListed, true);
        }
    }

    private static void askLibrary(String bare) {
        Matcher calls = Pattern.compile("\\b(Math|Long|Integer|Arrays|System|String|Character|Boolean)\\.(\\w+)").matcher(bare);
        while (calls.find()) {
            CHECK.due(calls.group(), LIBRARY.contains(calls.group()), true);
        }
        // No object is made outside of field initialisers and constructors: each row with 'new' is one of theirs.
        for (String row : bare.split("\n")) {
            if (Pattern.compile("\\bnew\\b").matcher(row).find()) {
                boolean isMade = Pattern.compile("(final|private) [\\w\\[\\]]+(\\s\\w+)* = new|rows\\[i\\] = new|before\\[i\\] = new").matcher(row).find();
                CHECK.due("made where it need not be: " + row.strip(), isMade, true);
            }
        }
    }

    private static void askStatics() {
        for (Class<?> type : classes()) {
            for (Field field : type.getDeclaredFields()) {
                if (Modifier.isStatic(field.getModifiers())) {
                    CHECK.due(field + " is final", Modifier.isFinal(field.getModifiers()), true);
                    boolean isPlain = List.of(int.class, long.class, boolean.class, char.class, String.class).contains(field.getType());
                    CHECK.due(field + " is plain", isPlain, true);
                }
            }
        }
    }

    private static void askSizes(String bare) {
        int depth = 0;
        int from = 0;
        String[] rows = bare.split("\n", -1);
        int methodDepth = 0;
        for (int i = 0; i < rows.length; i++) {
            boolean isHead = rows[i].matches("\\s*(public |private |static |final )*[\\w\\[\\]<>]+( \\w+)?\\([^;=]*\\) \\{\\s*");
            if (methodDepth == 0 && depth > 0 && isHead) {
                methodDepth = depth + 1;
                from = i;
            }
            depth += rows[i].chars().filter(c -> c == '{').count();
            depth -= rows[i].chars().filter(c -> c == '}').count();
            if (methodDepth > 0 && depth < methodDepth) {
                CHECK.due(rows[from].strip() + " is of sixty lines at most", i - from < 60, true);
                methodDepth = 0;
            }
        }
        CHECK.due("brackets", depth, 0);
    }
}
