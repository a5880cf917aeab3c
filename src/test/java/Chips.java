import java.util.ArrayList;
import java.util.List;
import java.util.Random;

/** Makes chips at random, each as a text and as what the text means. */
final class Chips {
    /** The primitive polynomials of the degrees 3 to 6. */
    static final int[][] PRIMITIVE = {{11, 13}, {19, 25}, {37, 41, 47, 55, 59, 61}, {67, 91, 97, 103, 109, 115}};

    private static final class Term<T> {
        final String text;
        final T meaning;

        Term(String text, T meaning) {
            this.text = text;
            this.meaning = meaning;
        }
    }

    final Random random;
    final Model.Told told = new Model.Told();
    final List<String> statements = new ArrayList<>();
    private boolean inDrifts;

    Chips(long seed) {
        random = new Random(seed);
        putField();
        List<String> rest = new ArrayList<>();
        int pages = 1 + random.nextInt(6);
        for (int i = 0; i < pages; i++) {
            rest.add("page");
        }
        for (String word : new String[] {"high", "low", "mid", "step", "noise", "noise", "high", "mid"}) {
            if (random.nextInt(3) > 0) {
                rest.add(word);
            }
        }
        if (random.nextInt(6) > 0) {
            rest.add("drifts");
        }
        if (random.nextInt(3) > 0) {
            rest.add("tries");
        }
        java.util.Collections.shuffle(rest, random);
        for (String word : rest) {
            statements.add(statement(word));
        }
    }

    private int among(int least, int most) {
        return least + random.nextInt(most - least + 1);
    }

    private void putField() {
        told.m = among(3, 6);
        int[] polys = PRIMITIVE[told.m - 3];
        told.poly = polys[random.nextInt(polys.length)];
        int[] mends = {3, 5, 5, 5};
        told.t = among(1, mends[told.m - 3]);
        told.s = 0;
        int bits = new Model(told).dataBits;
        told.s = random.nextInt(3) == 0 ? 0 : random.nextInt(bits);
        statements.add("field " + told.m + " poly " + told.poly + " mends " + told.t + " short " + told.s);
    }

    private String statement(String word) {
        switch (word) {
            case "page":
                told.names.add(name());
                return "page " + told.names.get(told.names.size() - 1);
            case "high":
                told.high = among(51, 99);
                return "high " + told.high;
            case "low":
                told.low = among(0, 49);
                return "low " + told.low;
            case "mid":
                told.mid = random.nextBoolean() ? among(40, 60) : among(1, 99);
                return "mid " + told.mid;
            case "step":
                told.step = random.nextBoolean() ? among(1, 5) : among(1, 20);
                return "step " + told.step;
            case "noise":
                told.noise = random.nextInt(5) == 0 ? 100 : among(0, 100);
                return "noise " + told.noise;
            case "drifts":
                inDrifts = true;
                Term<Model.Sum> drifts = random.nextInt(3) == 0 ? sum(0, 3) : gentle();
                told.drifts = drifts.meaning;
                return "drifts " + drifts.text;
            default:
                inDrifts = false;
                Term<Model.Test> tries = random.nextBoolean() ? test(0, 2) : patient();
                told.tries = tries.meaning;
                return "tries " + tries.text;
        }
    }

    private String name() {
        while (true) {
            StringBuilder name = new StringBuilder();
            int length = among(2, 6);
            for (int i = 0; i < length; i++) {
                name.append((char) ('a' + random.nextInt(26)));
            }
            boolean isOwn = " poly mends short page high low mid step noise drifts tries day cell level bit age"
                    .concat(" tried gap at if or and not all min max field ").contains(" " + name + " ");
            if (!isOwn && !told.names.contains(name.toString())) {
                return name.toString();
            }
        }
    }

    /** The text, with blanks more than need be now and then. */
    String text() {
        StringBuilder text = new StringBuilder();
        for (String statement : statements) {
            text.append(statement).append(';');
        }
        StringBuilder spread = new StringBuilder();
        for (int i = 0; i < text.length(); i++) {
            char sign = text.charAt(i);
            if (!Character.isLetterOrDigit(sign) && random.nextInt(8) == 0) {
                spread.append(random.nextBoolean() ? ' ' : '\n').append(sign).append(' ');
            } else {
                spread.append(sign);
            }
        }
        return spread.length() <= 1600 ? spread.toString() : text.toString();
    }

    private static long bounded(long value) {
        return value > 1000000 ? 1000000 : value < -1000000 ? -1000000 : value;
    }

    static long apply(char sign, long a, long b) {
        switch (sign) {
            case '+': return bounded(a + b);
            case '-': return bounded(a - b);
            case '*': return bounded(a * b);
            case '/': return b == 0 ? 0 : bounded(floor(a, b));
            default: return b == 0 ? 0 : a - b * floor(a, b);
        }
    }

    private static long floor(long a, long b) {
        long whole = a / b;
        while (whole * b != a && (a < 0) != (b < 0) && whole * Math.abs(b) > a * (b < 0 ? -1 : 1)) {
            whole--;
        }
        return whole;
    }

    /** Drifts such that pages are got for some days. */
    private Term<Model.Sum> gentle() {
        int by = among(1, 3);
        int of = among(2, 4);
        switch (random.nextInt(3)) {
            case 0:
                return new Term<>("if(bit=1,0-cell%" + of + ",(age+page)%" + of + ")",
                        s -> s.bit == 1 ? -(s.cell % of) : (s.age + s.page) % of);
            case 1:
                return new Term<>("(cell+day)%" + of + "-" + by, s -> (s.cell + s.day) % of - by);
            default:
                return new Term<>("if(level>" + 50 + ",0-(cell*page+day)%" + of + ",min(age,cell%" + of + "))",
                        s -> s.level > 50 ? -((s.cell * s.page + s.day) % of) : Math.min(s.age, s.cell % of));
        }
    }

    private Term<Model.Test> patient() {
        int most = among(1, 40);
        int gap = among(1, 30);
        int at = among(10, 90);
        switch (random.nextInt(4)) {
            case 0: return new Term<>("all", s -> true);
            case 1: return new Term<>("tried<" + most, s -> s.tried < most);
            case 2: return new Term<>("gap<" + gap + " or at<" + at, s -> s.gap < gap || s.at < at);
            default: return new Term<>("not[at=" + at + "]and tried<" + most, s -> s.at != at && s.tried < most);
        }
    }

    private Term<Model.Sum> sum(int open, int size) {
        return row(open, size, "+-", true);
    }

    private Term<Model.Sum> row(int open, int size, String signs, boolean ofProducts) {
        Term<Model.Sum> left = ofProducts ? row(open, size, "*/%", false) : part(open, size);
        int more = random.nextInt(3) == 0 ? random.nextInt(3) : 0;
        for (int i = 0; i < more; i++) {
            char sign = signs.charAt(random.nextInt(signs.length()));
            Term<Model.Sum> right = ofProducts ? row(open, size, "*/%", false) : part(open, size);
            Model.Sum a = left.meaning;
            Model.Sum b = right.meaning;
            left = new Term<>(left.text + sign + right.text, s -> apply(sign, a.of(s), b.of(s)));
        }
        return left;
    }

    private Term<Model.Sum> part(int open, int size) {
        int kind = random.nextInt(open < 7 && size > 0 ? 8 : 4);
        if (kind < 2) {
            int number = random.nextInt(4) == 0 ? random.nextInt(10000) : random.nextInt(12);
            return new Term<>(String.valueOf(number), s -> number);
        }
        if (kind < 4) {
            return value();
        }
        if (kind == 4) {
            Term<Model.Sum> inner = sum(open + 1, size - 1);
            return new Term<>("(" + inner.text + ")", inner.meaning);
        }
        Model.Sum a;
        Model.Sum b;
        if (kind == 5) {
            Term<Model.Test> test = test(open + 1, size - 1);
            Term<Model.Sum> first = sum(open + 1, size - 1);
            Term<Model.Sum> second = sum(open + 1, size - 1);
            Model.Test when = test.meaning;
            a = first.meaning;
            b = second.meaning;
            return new Term<>("if(" + test.text + "," + first.text + "," + second.text + ")",
                    s -> when.of(s) ? a.of(s) : b.of(s));
        }
        Term<Model.Sum> first = sum(open + 1, size - 1);
        Term<Model.Sum> second = sum(open + 1, size - 1);
        a = first.meaning;
        b = second.meaning;
        if (kind == 6) {
            return new Term<>("min(" + first.text + "," + second.text + ")", s -> Math.min(a.of(s), b.of(s)));
        }
        return new Term<>("max(" + first.text + "," + second.text + ")", s -> Math.max(a.of(s), b.of(s)));
    }

    private Term<Model.Sum> value() {
        if (!inDrifts) {
            switch (random.nextInt(3)) {
                case 0: return new Term<>("tried", s -> s.tried);
                case 1: return new Term<>("gap", s -> s.gap);
                default: return new Term<>("at", s -> s.at);
            }
        }
        switch (random.nextInt(6)) {
            case 0: return new Term<>("day", s -> s.day);
            case 1: return new Term<>("page", s -> s.page);
            case 2: return new Term<>("cell", s -> s.cell);
            case 3: return new Term<>("level", s -> s.level);
            case 4: return new Term<>("bit", s -> s.bit);
            default: return new Term<>("age", s -> s.age);
        }
    }

    private Term<Model.Test> test(int open, int size) {
        Term<Model.Test> left = both(open, size);
        int more = random.nextInt(4) == 0 ? 1 : 0;
        for (int i = 0; i < more; i++) {
            Term<Model.Test> right = both(open, size);
            Model.Test a = left.meaning;
            Model.Test b = right.meaning;
            left = new Term<>(left.text + " or " + right.text, s -> a.of(s) || b.of(s));
        }
        return left;
    }

    private Term<Model.Test> both(int open, int size) {
        Term<Model.Test> left = fact(open, size);
        int more = random.nextInt(4) == 0 ? 1 : 0;
        for (int i = 0; i < more; i++) {
            Term<Model.Test> right = fact(open, size);
            Model.Test a = left.meaning;
            Model.Test b = right.meaning;
            left = new Term<>(left.text + " and " + right.text, s -> a.of(s) && b.of(s));
        }
        return left;
    }

    private Term<Model.Test> fact(int open, int size) {
        int kind = random.nextInt(open < 7 && size > 0 ? 8 : 6);
        if (kind == 0) {
            return new Term<>("all", s -> true);
        }
        if (kind < 6) {
            Term<Model.Sum> left = sum(open, size - 1);
            Term<Model.Sum> right = sum(open, size - 1);
            Model.Sum a = left.meaning;
            Model.Sum b = right.meaning;
            switch (random.nextInt(3)) {
                case 0: return new Term<>(left.text + "<" + right.text, s -> a.of(s) < b.of(s));
                case 1: return new Term<>(left.text + ">" + right.text, s -> a.of(s) > b.of(s));
                default: return new Term<>(left.text + "=" + right.text, s -> a.of(s) == b.of(s));
            }
        }
        if (kind == 6) {
            Term<Model.Test> inner = fact(open + 1, size - 1);
            Model.Test a = inner.meaning;
            return new Term<>("not " + inner.text, s -> !a.of(s));
        }
        Term<Model.Test> inner = test(open + 1, size - 1);
        return new Term<>("[" + inner.text + "]", inner.meaning);
    }
}
