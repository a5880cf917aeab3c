import java.util.ArrayList;
import java.util.HashSet;
import java.util.LinkedHashSet;
import java.util.List;
import java.util.Set;

/**
 * The FAULT of a text by other means than the class's: the grammar as rules, and which words and signs can come
 * next by all ways through them at once (Earley's way), instead of one method for each rule.
 */
final class Grammar {
    private static final String[] OWN = {"field", "poly", "mends", "short", "page", "high", "low", "mid", "step", "noise", "drifts", "tries", "day",
        "cell", "level", "bit", "age", "tried", "gap", "at", "if", "or", "and", "not", "all", "min", "max"};
    /** Of the generators by the degrees 3 to 6 and t 1 to 5. */
    private static final int[][] CHECKS = {{3, 6, 6, 7, 7}, {4, 8, 10, 14, 14}, {5, 10, 15, 20, 20}, {6, 12, 18, 24, 27}};

    private static final class Rule {
        final String left;
        final String[] right;

        Rule(String left, String right) {
            this.left = left;
            this.right = right.isEmpty() ? new String[0] : right.split(" ");
        }
    }

    private static final class Item {
        final int rule;
        final int dot;
        final int from;

        Item(int rule, int dot, int from) {
            this.rule = rule;
            this.dot = dot;
            this.from = from;
        }

        @Override
        public boolean equals(Object other) {
            return other instanceof Item && ((Item) other).rule == rule && ((Item) other).dot == dot && ((Item) other).from == from;
        }

        @Override
        public int hashCode() {
            return (rule * 31 + dot) * 4099 + from;
        }
    }

    private static final List<Rule> RULES = rules();
    private static final Set<String> LEFTS = lefts();

    private final String text;
    private final List<List<Item>> sets = new ArrayList<>();
    private int place;
    private String kind = "";
    private String value = "";
    private int start;
    private int badPlace;
    int fault;
    int faultPlace = -1;
    int statements;

    private static List<Rule> rules() {
        List<Rule> all = new ArrayList<>();
        String[][] plain = {{"CHIP", "FIELD ; MORE END"}, {"FIELD", "field N poly N mends N short N"}, {"MORE", ""}, {"MORE", "STATEMENT ; MORE"},
            {"STATEMENT", "page NAME"}, {"STATEMENT", "high N"}, {"STATEMENT", "low N"}, {"STATEMENT", "mid N"}, {"STATEMENT", "step N"},
            {"STATEMENT", "noise N"}, {"STATEMENT", "drifts SUM1"}, {"STATEMENT", "tries TEST2"}};
        for (String[] row : plain) {
            all.add(new Rule(row[0], row[1]));
        }
        for (String k : new String[] {"1", "2"}) {
            String[][] terms = {{"SUM", "PRODUCT"}, {"SUM", "SUM + PRODUCT"}, {"SUM", "SUM - PRODUCT"}, {"PRODUCT", "PART"}, {"PRODUCT", "PRODUCT * PART"},
                {"PRODUCT", "PRODUCT / PART"}, {"PRODUCT", "PRODUCT % PART"}, {"PART", "N"}, {"PART", "( SUM )"}, {"PART", "min ( SUM , SUM )"},
                {"PART", "max ( SUM , SUM )"}, {"PART", "if ( TEST , SUM , SUM )"}, {"TEST", "BOTH"}, {"TEST", "TEST or BOTH"}, {"BOTH", "FACT"},
                {"BOTH", "BOTH and FACT"}, {"FACT", "not FACT"}, {"FACT", "[ TEST ]"}, {"FACT", "all"}, {"FACT", "SUM < SUM"}, {"FACT", "SUM > SUM"},
                {"FACT", "SUM = SUM"}};
            for (String[] row : terms) {
                all.add(new Rule(row[0] + k, row[1].replaceAll("(SUM|PRODUCT|PART|TEST|BOTH|FACT)", "$1" + k)));
            }
        }
        for (String word : new String[] {"day", "page", "cell", "level", "bit", "age"}) {
            all.add(new Rule("PART1", word));
        }
        for (String word : new String[] {"tried", "gap", "at"}) {
            all.add(new Rule("PART2", word));
        }
        return all;
    }

    private static Set<String> lefts() {
        Set<String> all = new HashSet<>();
        for (Rule rule : RULES) {
            all.add(rule.left);
        }
        return all;
    }

    Grammar(String text) {
        this.text = text;
        Set<Item> first = new LinkedHashSet<>();
        first.add(new Item(0, 0, 0));
        sets.add(closed(first, 0));
        go();
    }

    // ---- which come next

    private List<Item> closed(Set<Item> items, int at) {
        List<Item> list = new ArrayList<>(items);
        for (int i = 0; i < list.size(); i++) {
            Item item = list.get(i);
            Rule rule = RULES.get(item.rule);
            List<Item> more = new ArrayList<>();
            if (item.dot == rule.right.length) {
                List<Item> origin = item.from == at ? new ArrayList<>(list) : sets.get(item.from);
                for (Item waiting : origin) {
                    String[] right = RULES.get(waiting.rule).right;
                    if (waiting.dot < right.length && right[waiting.dot].equals(rule.left)) {
                        more.add(new Item(waiting.rule, waiting.dot + 1, waiting.from));
                    }
                }
            } else if (LEFTS.contains(rule.right[item.dot])) {
                String next = rule.right[item.dot];
                for (int r = 0; r < RULES.size(); r++) {
                    if (RULES.get(r).left.equals(next)) {
                        more.add(new Item(r, 0, at));
                        if (RULES.get(r).right.length == 0) {
                            more.add(new Item(item.rule, item.dot + 1, item.from));
                        }
                    }
                }
            }
            for (Item one : more) {
                if (items.add(one)) {
                    list.add(one);
                }
            }
        }
        return list;
    }

    /** Whether it can come next; if so, it has come. */
    private boolean takes(String terminal) {
        Set<Item> next = new LinkedHashSet<>();
        for (Item item : sets.get(sets.size() - 1)) {
            String[] right = RULES.get(item.rule).right;
            if (item.dot < right.length && right[item.dot].equals(terminal)) {
                next.add(new Item(item.rule, item.dot + 1, item.from));
            }
        }
        if (next.isEmpty()) {
            return false;
        }
        sets.add(null);
        sets.set(sets.size() - 1, closed(next, sets.size() - 1));
        return true;
    }

    // ---- words, numbers, signs

    private static boolean isLetter(char sign) {
        return "abcdefghijklmnopqrstuvwxyz".indexOf(sign) >= 0;
    }

    private static boolean isDigit(char sign) {
        return "0123456789".indexOf(sign) >= 0;
    }

    private void look() {
        int from = place;
        while (place < text.length() && (text.charAt(place) == ' ' || text.charAt(place) == '\n')) {
            place++;
        }
        start = place;
        badPlace = -1;
        if (place == text.length()) {
            kind = "END";
            return;
        }
        char sign = text.charAt(place);
        if (!isLetter(sign) && !isDigit(sign)) {
            kind = "()[]<>=+-*/%,;".indexOf(sign) >= 0 ? String.valueOf(sign) : "no sign";
            place++;
            return;
        }
        if (start == from && start > 0 && (isLetter(text.charAt(start - 1)) || isDigit(text.charAt(start - 1)))) {
            badPlace = start;
        }
        while (place < text.length() && (isLetter(sign) ? isLetter(text.charAt(place)) : isDigit(text.charAt(place)))) {
            place++;
        }
        int most = isLetter(sign) ? 6 : 4;
        if (badPlace < 0 && place - start > most) {
            badPlace = start + most;
        }
        value = text.substring(start, place);
        kind = isDigit(sign) ? "N" : List.of(OWN).contains(value) ? value : "NAME";
    }

    // ---- the first FAULT

    private boolean fail(int number, int at) {
        fault = number;
        faultPlace = at;
        return false;
    }

    private void go() {
        List<String> names = new ArrayList<>();
        List<String> seen = new ArrayList<>();
        List<String> open = new ArrayList<>();
        int[] code = new int[3];
        String former = ";";
        boolean isTerm = false;
        while (true) {
            look();
            boolean isFirst = former.equals(";");
            if (isFirst && statements == 40 && !kind.equals("END")) {
                fail(6, start);
                return;
            }
            if (badPlace >= 0 || !takes(kind)) {
                fail(1, badPlace >= 0 ? badPlace : start);
                return;
            }
            if (kind.equals("END")) {
                return;
            }
            if (isFirst) {
                isTerm = kind.equals("drifts") || kind.equals("tries");
                int most = kind.equals("page") ? 6 : isTerm ? 1 : 40;
                String which = kind;
                if (seen.stream().filter(which::equals).count() >= most) {
                    fail(6, start);
                    return;
                }
                seen.add(kind);
            }
            if (!isOpenOk(open) || !isTerm && kind.equals("N") && !isNumberOk(former, Integer.parseInt(value), code)) {
                return;
            }
            if (kind.equals("NAME")) {
                if (names.contains(value)) {
                    fail(2, start);
                    return;
                }
                names.add(value);
            }
            statements += kind.equals(";") ? 1 : 0;
            former = kind;
        }
    }

    private boolean isOpenOk(List<String> open) {
        if (kind.equals("(") || kind.equals("[") || kind.equals("not")) {
            if (open.size() == 7) {
                return fail(5, start);
            }
            open.add(kind);
            return true;
        }
        if (List.of("and", "or", ",", ")", "]", ";").contains(kind)) {
            while (!open.isEmpty() && open.get(open.size() - 1).equals("not")) {
                open.remove(open.size() - 1);
            }
            if (kind.equals(")") || kind.equals("]")) {
                open.remove(open.size() - 1);
            }
        }
        return true;
    }

    private boolean isNumberOk(String word, int number, int[] code) {
        int least = 0;
        int most = 9999;
        switch (word) {
            case "field": least = 3; most = 6; code[0] = number; break;
            case "poly": {
                boolean isPrimitive = false;
                for (int poly : Chips.PRIMITIVE[code[0] - 3]) {
                    isPrimitive |= poly == number;
                }
                least = isPrimitive ? 0 : 10000;
                break;
            }
            case "mends": {
                least = 1;
                most = 5;
                int n = (1 << code[0]) - 1;
                if (number >= 1 && number <= 5) {
                    code[1] = n - CHECKS[code[0] - 3][number - 1];
                    most = code[1] > 0 ? 5 : 0;
                }
                break;
            }
            case "short": most = code[1] - 1; break;
            case "high": least = 51; most = 99; break;
            case "low": most = 49; break;
            case "mid": least = 1; most = 99; break;
            case "step": least = 1; most = 20; break;
            default: most = 100; break;
        }
        return number >= least && number <= most || fail(4, start);
    }
}
