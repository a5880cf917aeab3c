import java.io.IOException;
import java.io.StringWriter;
import java.lang.reflect.InvocationTargetException;
import java.lang.reflect.Method;
import java.lang.reflect.Modifier;
import java.net.URI;
import java.net.URL;
import java.net.URLClassLoader;
import java.nio.file.Files;
import java.nio.file.Path;
import java.util.List;
import java.util.regex.Matcher;
import java.util.regex.Pattern;
import java.util.stream.Collectors;
import java.util.stream.Stream;
import javax.tools.JavaCompiler;
import javax.tools.JavaFileObject;
import javax.tools.SimpleJavaFileObject;
import javax.tools.ToolProvider;

/** README.md: its examples answer what they say, and it names each call and each test. */
public final class ReadmeTest {
    private static final Check CHECK = new Check();

    public static void main(String[] args) throws IOException, ReflectiveOperationException {
        String readme = Files.readString(Path.of("README.md"));
        run(source(readme));
        for (Method method : FlashPages.class.getDeclaredMethods()) {
            if (Modifier.isPublic(method.getModifiers())) {
                CHECK.due(method.getName() + " is named", readme.contains("`" + method.getName() + "`"), true);
            }
        }
        try (Stream<Path> all = Files.list(Path.of("src/test/java"))) {
            for (Path path : all.filter(p -> p.toString().endsWith("Test.java")).sorted().collect(Collectors.toList())) {
                String name = path.getFileName().toString().replace(".java", "");
                CHECK.due(name + " is listed", readme.contains("\n| " + name + " |"), true);
            }
        }
        CHECK.finish();
    }

    /** Called by what is made of the examples. */
    public static void due(String call, Object got, Object want) {
        CHECK.due(call + " answered " + got, got.equals(want), true);
    }

    /** The methods of the README as they are, its other rows in the order in which they stand, as one class. */
    private static String source(String readme) {
        StringBuilder methods = new StringBuilder();
        StringBuilder rows = new StringBuilder();
        Matcher block = Pattern.compile("(?s)```java\n(.*?)```").matcher(readme);
        int answers = 0;
        while (block.find()) {
            if (block.group(1).startsWith("static ")) {
                methods.append(block.group(1));
                continue;
            }
            for (String row : block.group(1).split("\n")) {
                Matcher told = Pattern.compile("(x\\.\\w+\\(.*\\)); *// (-?\\d+|true|false)\\b.*").matcher(row);
                CHECK.due("a call without an answer: " + row, row.startsWith("x.") && !told.matches(), false);
                if (told.matches()) {
                    rows.append("ReadmeTest.due(\"" + told.group(1) + "\", " + told.group(1) + ", " + told.group(2) + ");\n");
                    answers++;
                } else {
                    rows.append(row).append('\n');
                }
            }
        }
        CHECK.due("answers, " + answers, answers > 20, true);
        return "public final class Readme {\n" + methods + "public static void run() {\n" + rows + "}\n}\n";
    }

    private static void run(String source) throws IOException, ReflectiveOperationException {
        Path place = Files.createTempDirectory("readme");
        JavaCompiler compiler = ToolProvider.getSystemJavaCompiler();
        JavaFileObject file = new SimpleJavaFileObject(URI.create("string:///Readme.java"), JavaFileObject.Kind.SOURCE) {
            @Override
            public CharSequence getCharContent(boolean ignoreErrors) {
                return source;
            }
        };
        List<String> options = List.of("-proc:none", "-d", place.toString(), "-cp", System.getProperty("java.class.path"));
        StringWriter told = new StringWriter();
        boolean isCompiled = compiler.getTask(told, null, null, options, null, List.of(file)).call();
        CHECK.due("the examples are compiled: " + told, isCompiled, true);
        if (isCompiled) {
            try (URLClassLoader loader = new URLClassLoader(new URL[] {place.toUri().toURL()}, ReadmeTest.class.getClassLoader())) {
                loader.loadClass("Readme").getMethod("run").invoke(null);
            } catch (InvocationTargetException thrown) {
                CHECK.due("the examples throw " + thrown.getCause(), false, true);
            }
        }
        Files.deleteIfExists(place.resolve("Readme.class"));
        Files.deleteIfExists(place);
    }
}
