import java.lang.reflect.InvocationTargetException;
import java.lang.reflect.Method;
import java.lang.reflect.Modifier;
import java.util.Arrays;
import java.util.Comparator;
import java.util.Random;

/** No call throws, whatever its numbers and whatever is on the tape, with a chip and without. */
public final class ExtremesTest {
    private static final int[] NUMBERS = {Integer.MIN_VALUE, Integer.MAX_VALUE, -1000, -2, -1, 0, 1, 2, 3, 5, 6, 7, 10, 11, 39, 40,
        41, 62, 63, 64, 99, 100, 101, 999, 1600, 1 << 30, (1 << 30) - 1};
    private static final Check CHECK = new Check();

    public static void main(String[] args) throws IllegalAccessException {
        Random random = new Random(1);
        Method[] methods = Arrays.stream(FlashPages.class.getDeclaredMethods())
                .filter(m -> Modifier.isPublic(m.getModifiers()))
                .sorted(Comparator.comparing(Method::getName)).toArray(Method[]::new);
        for (int i = 0; i < 300; i++) {
            FlashPages x = new FlashPages();
            if (i % 10 > 0) {
                Check.chip(x, new Chips(1000 + i).text());
            }
            for (int k = 0; k < 512; k++) {
                call(x, methods[random.nextInt(methods.length)], random);
            }
        }
        spoilTexts(random);
        CHECK.finish();
    }

    private static void call(FlashPages x, Method method, Random random) throws IllegalAccessException {
        Object[] arguments = new Object[method.getParameterCount()];
        for (int i = 0; i < arguments.length; i++) {
            int kind = random.nextInt(4);
            arguments[i] = kind == 0 ? NUMBERS[random.nextInt(NUMBERS.length)] : kind == 1 ? random.nextInt() : random.nextInt(8);
        }
        try {
            method.invoke(x, arguments);
            CHECK.due(method.getName(), 0, 0);
        } catch (InvocationTargetException thrown) {
            thrown.getCause().printStackTrace();
            CHECK.due(method.getName() + Arrays.toString(arguments), 1, 0);
        }
    }

    /** Good texts with bytes changed, left out, or cut: a FAULT has a place in the text, and the object goes on. */
    private static void spoilTexts(Random random) {
        String signs = "()[]<>=+-*/%,; \n0189azpq#";
        for (int i = 0; i < 20000; i++) {
            StringBuilder text = new StringBuilder(new Chips(i % 500).text());
            int changes = 1 + random.nextInt(3);
            for (int k = 0; k < changes && text.length() > 0; k++) {
                int at = random.nextInt(text.length());
                char sign = random.nextInt(8) == 0 ? (char) random.nextInt(256) : signs.charAt(random.nextInt(signs.length()));
                switch (random.nextInt(4)) {
                    case 0: text.setCharAt(at, sign); break;
                    case 1: text.deleteCharAt(at); break;
                    case 2: text.setLength(at); break;
                    default: text.insert(at, text.length() < 1600 ? String.valueOf(sign) : ""); break;
                }
            }
            FlashPages x = new FlashPages();
            int answer = Check.chip(x, text.toString());
            boolean isPlace = x.fault(1) >= 0 && x.fault(1) <= text.length();
            CHECK.due("a fault and its place: " + text, answer == -1 ? isPlace && x.fault(0) > 0 : x.fault(0) == 0, true);
            if (answer > 0) {
                x.write(0, 0, 1);
                x.days(3);
                x.odds(0);
            }
        }
    }
}
