import java.util.ArrayList;
import java.util.Arrays;
import java.util.HashMap;
import java.util.List;
import java.util.Map;

/**
 * The document's words once more, done by other means than the class's: products of polynomials instead
 * of tables, linear equations instead of Berlekamp and Massey, every row counted, whole copies for undo.
 */
final class Model {
    /** What drifts and tries may ask for. */
    static final class Scene {
        long day;
        long page;
        long cell;
        long level;
        long bit;
        long age;
        long tried;
        long gap;
        long at;
    }

    interface Sum {
        long of(Scene scene);
    }

    interface Test {
        boolean of(Scene scene);
    }

    /** A chip as it is told. */
    static final class Told {
        int m;
        int poly;
        int t;
        int s;
        int high = 70;
        int low = 30;
        int mid = 50;
        int step = 3;
        int noise = 0;
        Sum drifts = scene -> 0;
        Test tries = scene -> scene.tried < 8;
        List<String> names = new ArrayList<>();
    }

    static final class Leaf {
        int age;
        boolean[] word;
        int[] levels;

        Leaf copy() {
            Leaf leaf = new Leaf();
            leaf.age = age;
            leaf.word = word.clone();
            leaf.levels = levels.clone();
            return leaf;
        }
    }

    static final class State {
        int day;
        Leaf[] leaves;
        List<int[]> kept = new ArrayList<>();

        State copy() {
            State state = new State();
            state.day = day;
            state.leaves = new Leaf[leaves.length];
            for (int i = 0; i < leaves.length; i++) {
                state.leaves[i] = leaves[i] == null ? null : leaves[i].copy();
            }
            state.kept = new ArrayList<>(kept);
            return state;
        }
    }

    static final class Read {
        boolean[] bits;
        int[] syndromes;
        int length;
        int[] factors;
        List<Integer> wrong = new ArrayList<>();
        int cause;
        boolean[] result;
    }

    static final class Got {
        Read last;
        int reads;
        int at;
        boolean isTrue;
    }

    final Told told;
    final int n;
    final int cells;
    final int r;
    final int dataBits;
    final boolean[] generator;
    State state = new State();
    final List<State> past = new ArrayList<>();
    List<int[]> met = new ArrayList<>();
    long seed = 1;
    private final Map<String, Read> reads = new HashMap<>();

    Model(Told told) {
        this.told = told;
        n = (1 << told.m) - 1;
        boolean[] product = {true};
        List<Integer> used = new ArrayList<>();
        for (int j = 1; j <= 2 * told.t; j++) {
            int least = minimal(j % n);
            if (!used.contains(least)) {
                used.add(least);
                product = times(product, bitsOf(least));
            }
        }
        generator = product;
        r = product.length - 1;
        cells = n - told.s;
        dataBits = cells - r;
        state.leaves = new Leaf[told.names.size()];
    }

    // ---- the field

    int times(int x, int y) {
        int sum = 0;
        for (int k = 0; k < told.m; k++) {
            if ((y >> k & 1) == 1) {
                sum ^= x << k;
            }
        }
        for (int k = 2 * told.m; k >= told.m; k--) {
            if ((sum >> k & 1) == 1) {
                sum ^= told.poly << (k - told.m);
            }
        }
        return sum;
    }

    int power(int k) {
        int x = 1;
        for (int i = 0; i < Math.floorMod(k, n); i++) {
            x = times(x, 2);
        }
        return x;
    }

    int log(int x) {
        for (int k = 0; k < n; k++) {
            if (power(k) == x) {
                return k;
            }
        }
        return -1;
    }

    /** The product of x less each conjugate. */
    int minimal(int k) {
        List<Integer> exponents = new ArrayList<>();
        for (int e = k; !exponents.contains(e); e = 2 * e % n) {
            exponents.add(e);
        }
        int[] product = {1};
        for (int e : exponents) {
            int[] next = new int[product.length + 1];
            for (int i = 0; i < product.length; i++) {
                next[i + 1] ^= product[i];
                next[i] ^= times(product[i], power(e));
            }
            product = next;
        }
        int number = 0;
        for (int i = 0; i < product.length; i++) {
            if (product[i] > 1) {
                throw new IllegalStateException("no polynomial over two elements");
            }
            number |= product[i] << i;
        }
        return number;
    }

    private static boolean[] bitsOf(int number) {
        boolean[] bits = new boolean[32 - Integer.numberOfLeadingZeros(number)];
        for (int k = 0; k < bits.length; k++) {
            bits[k] = (number >> k & 1) == 1;
        }
        return bits;
    }

    private static boolean[] times(boolean[] x, boolean[] y) {
        boolean[] product = new boolean[x.length + y.length - 1];
        for (int i = 0; i < x.length; i++) {
            for (int k = 0; k < y.length; k++) {
                product[i + k] ^= x[i] && y[k];
            }
        }
        return product;
    }

    // ---- words and reads

    boolean isData(int high, int low) {
        return high >= 0 && low >= 0 && low < 1 << 30 && ((long) high << 30 | low) < 1L << dataBits;
    }

    boolean[] word(long data) {
        boolean[] word = new boolean[cells];
        for (int k = 0; k < dataBits; k++) {
            word[r + k] = (data >> k & 1) == 1;
        }
        boolean[] rest = word.clone();
        for (int k = cells - 1; k >= r; k--) {
            if (rest[k]) {
                for (int i = 0; i <= r; i++) {
                    rest[k - r + i] ^= generator[i];
                }
            }
        }
        System.arraycopy(rest, 0, word, 0, r);
        return word;
    }

    boolean[] bitsBy(int[] levels, int at) {
        boolean[] bits = new boolean[cells];
        for (int k = 0; k < cells; k++) {
            bits[k] = levels[k] >= at;
        }
        return bits;
    }

    static int ones(boolean[] bits) {
        int count = 0;
        for (boolean bit : bits) {
            count += bit ? 1 : 0;
        }
        return count;
    }

    Read read(boolean[] bits) {
        return reads.computeIfAbsent(Arrays.toString(bits), key -> decode(bits));
    }

    private Read decode(boolean[] bits) {
        Read read = new Read();
        read.bits = bits.clone();
        read.syndromes = new int[2 * told.t + 1];
        for (int j = 1; j <= 2 * told.t; j++) {
            for (int k = 0; k < cells; k++) {
                if (bits[k]) {
                    read.syndromes[j] ^= power(j * k);
                }
            }
        }
        for (read.length = 0; read.factors == null; read.length++) {
            read.factors = recurrence(read.syndromes, read.length);
        }
        read.length--;
        read.result = bits.clone();
        if (read.length > told.t) {
            read.cause = 1;
            return read;
        }
        for (int p = 0; p < n; p++) {
            int sum = 0;
            for (int i = 1; i <= read.length; i++) {
                sum ^= times(read.factors[i], power(-p * i));
            }
            if (sum == 1) {
                read.wrong.add(p);
            }
        }
        if (read.wrong.size() != read.length) {
            read.cause = 2;
        } else if (read.wrong.stream().anyMatch(p -> p >= cells)) {
            read.cause = 3;
        } else {
            for (int p : read.wrong) {
                read.result[p] = !read.result[p];
            }
        }
        return read;
    }

    /** c 1 .. c L by elimination; null where there are none. */
    private int[] recurrence(int[] s, int length) {
        int equations = 2 * told.t - length;
        int[][] rows = new int[Math.max(equations, 0)][length + 1];
        for (int e = 0; e < equations; e++) {
            int j = length + 1 + e;
            for (int i = 1; i <= length; i++) {
                rows[e][i - 1] = s[j - i];
            }
            rows[e][length] = s[j];
        }
        int[] factors = new int[length + 1];
        int[] pivotRow = new int[length];
        Arrays.fill(pivotRow, -1);
        int used = 0;
        for (int column = 0; column < length && used < rows.length; column++) {
            int found = used;
            while (found < rows.length && rows[found][column] == 0) {
                found++;
            }
            if (found == rows.length) {
                continue;
            }
            int[] swap = rows[found];
            rows[found] = rows[used];
            rows[used] = swap;
            int inverse = power(n - log(swap[column]));
            for (int i = 0; i <= length; i++) {
                swap[i] = times(swap[i], inverse);
            }
            for (int e = 0; e < rows.length; e++) {
                int times = rows[e][column];
                if (e != used && times != 0) {
                    for (int i = 0; i <= length; i++) {
                        rows[e][i] ^= times(times, swap[i]);
                    }
                }
            }
            pivotRow[column] = used;
            used++;
        }
        for (int e = used; e < rows.length; e++) {
            if (rows[e][length] != 0) {
                return null;
            }
        }
        for (int column = 0; column < length; column++) {
            factors[column + 1] = pivotRow[column] < 0 ? 0 : rows[pivotRow[column]][length];
        }
        return factors;
    }

    Got get(Leaf leaf) {
        Got got = new Got();
        int wanted = ones(leaf.word);
        got.at = told.mid;
        while (true) {
            got.last = read(bitsBy(leaf.levels, got.at));
            got.reads++;
            int ones = ones(got.last.bits);
            Scene scene = new Scene();
            scene.tried = got.reads;
            scene.gap = Math.abs(ones - wanted);
            scene.at = got.at;
            int next = ones > wanted ? got.at + told.step : got.at - told.step;
            boolean again = got.last.cause != 0 && got.reads < 40 && ones != wanted
                    && told.tries.of(scene) && next >= 1 && next <= 99;
            if (!again) {
                break;
            }
            got.at = next;
        }
        got.isTrue = got.last.cause == 0 && Arrays.equals(got.last.result, leaf.word);
        return got;
    }

    // ---- days

    void passDay(Leaf leaf, int page, int day) {
        for (int k = 0; k < cells; k++) {
            Scene scene = new Scene();
            scene.day = day;
            scene.page = page;
            scene.cell = k;
            scene.level = leaf.levels[k];
            scene.bit = leaf.word[k] ? 1 : 0;
            scene.age = leaf.age;
            long level = leaf.levels[k] + told.drifts.of(scene);
            leaf.levels[k] = (int) Math.max(0, Math.min(99, level));
        }
        leaf.age = Math.min(99, leaf.age + 1);
    }

    int draw(int m) {
        seed = (1103515245L * seed + 12345L) & 0x7fffffffL;
        return (int) (seed / 64 % m);
    }

    boolean isPage(int page) {
        return page >= 0 && page < state.leaves.length;
    }

    Leaf leaf(int page) {
        return isPage(page) ? state.leaves[page] : null;
    }

    private void save() {
        past.add(state.copy());
        if (past.size() > 20) {
            past.remove(0);
        }
    }

    private void put(int page, boolean[] word, int how) {
        Leaf leaf = new Leaf();
        leaf.word = word;
        leaf.levels = new int[cells];
        for (int k = 0; k < cells; k++) {
            leaf.levels[k] = word[k] ? told.high : told.low;
        }
        state.leaves[page] = leaf;
        state.kept.add(new int[] {state.day, page, how});
    }

    // ---- the face, as far as the random runs go

    int has(int what) {
        int written = 0;
        for (Leaf leaf : state.leaves) {
            written += leaf == null ? 0 : 1;
        }
        int[] all = {n, r, cells, dataBits, state.leaves.length, written, state.day, Math.min(40, state.kept.size()),
            met.size(), past.size(), (int) seed};
        return what < 0 || what >= all.length ? -1 : all[what];
    }

    int patterns(int size, int what) {
        int[] counts = new int[3];
        count(new boolean[cells], 0, size, counts);
        return counts[what];
    }

    private void count(boolean[] bits, int from, int left, int[] counts) {
        if (left == 0) {
            Read read = decode(bits);
            counts[read.cause != 0 ? 2 : ones(read.result) == 0 ? 0 : 1]++;
            return;
        }
        for (int k = from; k < cells; k++) {
            bits[k] = true;
            count(bits, k + 1, left - 1, counts);
            bits[k] = false;
        }
    }

    int weight(int ones) {
        if (ones < 0 || ones > 63 || dataBits > 12) {
            return -1;
        }
        int count = 0;
        for (int data = 0; data < 1 << dataBits; data++) {
            count += ones(word(data)) == ones ? 1 : 0;
        }
        return count;
    }

    int page(int page, int what) {
        if (!isPage(page) || what < 0 || what > 2) {
            return -1;
        }
        Leaf leaf = leaf(page);
        if (leaf == null) {
            return 0;
        }
        return what == 0 ? 1 : what == 1 ? leaf.age : ones(leaf.word);
    }

    int level(int page, int cell, int ahead) {
        Leaf leaf = leaf(page);
        if (leaf == null || cell < 0 || cell >= cells || ahead < 0 || ahead > 40 || state.day + ahead > 999) {
            return -1;
        }
        leaf = leaf.copy();
        for (int i = 0; i < ahead; i++) {
            passDay(leaf, page, state.day + i);
        }
        return leaf.levels[cell];
    }

    /** Null where there is no such read. */
    Read readOf(int page, int at) {
        Leaf leaf = leaf(page);
        return leaf == null || at < 0 || at > 100 ? null : read(bitsBy(leaf.levels, at));
    }

    int ones(int page, int at) {
        Read read = readOf(page, at);
        return read == null ? -1 : ones(read.bits);
    }

    int syndrome(int page, int at, int j) {
        Read read = readOf(page, at);
        return read == null || j < 1 || j > 2 * told.t ? -1 : read.syndromes[j];
    }

    int locator(int page, int at, int k) {
        Read read = readOf(page, at);
        if (read == null || k < 0 || k > read.length || k > 0 && read.cause == 1) {
            return -1;
        }
        return k == 0 ? read.length : read.factors[k];
    }

    int wrong(int page, int at, int k) {
        Read read = readOf(page, at);
        if (read == null || read.cause != 0 || k < -1 || k >= read.wrong.size()) {
            return -1;
        }
        return k == -1 ? read.wrong.size() : read.wrong.get(k);
    }

    int why(int page, int at) {
        Read read = readOf(page, at);
        return read == null ? -1 : read.cause;
    }

    int got(int page, int what) {
        Leaf leaf = leaf(page);
        if (leaf == null || what < 0 || what > 6) {
            return -1;
        }
        Got got = get(leaf);
        boolean isLost = got.last.cause != 0;
        long data = 0;
        for (int k = 0; k < dataBits; k++) {
            data |= got.last.result[r + k] ? 1L << k : 0;
        }
        switch (what) {
            case 0: return isLost ? -1 : got.last.wrong.size();
            case 1: return got.reads;
            case 2: return got.at;
            case 3: return got.isTrue ? 1 : 0;
            case 4: return got.last.cause;
            case 5: return isLost ? -1 : (int) (data % (1L << 30));
            default: return isLost ? -1 : (int) (data / (1L << 30));
        }
    }

    int span(int page, int what) {
        Leaf leaf = leaf(page);
        if (leaf == null || what < 0 || what > 1) {
            return -1;
        }
        List<Integer> good = new ArrayList<>();
        for (int at = 1; at <= 99; at++) {
            Read read = read(bitsBy(leaf.levels, at));
            if (read.cause == 0 && Arrays.equals(read.result, leaf.word)) {
                good.add(at);
            }
        }
        return good.isEmpty() ? -1 : what == 0 ? good.get(0) : good.get(good.size() - 1);
    }

    int lost(int page) {
        Leaf leaf = leaf(page);
        if (leaf == null) {
            return -1;
        }
        leaf = leaf.copy();
        for (int ahead = 0; ahead <= 40 && state.day + ahead <= 999; ahead++) {
            if (!get(leaf).isTrue) {
                return ahead;
            }
            passDay(leaf, page, state.day + ahead);
        }
        return -1;
    }

    int odds(int page) {
        if (state.day == 999) {
            return -1;
        }
        if (page == -1) {
            return 100 * cells;
        }
        if (leaf(page) == null) {
            return -1;
        }
        int count = 0;
        Leaf next = leaf(page).copy();
        passDay(next, page, state.day);
        for (int number = 0; number < 100; number++) {
            for (int k = 0; k < cells; k++) {
                Leaf leaf = next.copy();
                if (number < told.noise) {
                    leaf.levels[k] = 99 - leaf.levels[k];
                }
                count += get(leaf).isTrue ? 1 : 0;
            }
        }
        return count;
    }

    List<Integer> shifts(int page) {
        List<Integer> left = new ArrayList<>();
        for (int shift = -9; shift <= 9; shift++) {
            boolean fits = true;
            for (int[] row : met) {
                fits &= onesShifted(page, row[0], shift) == row[1];
            }
            if (fits) {
                left.add(shift);
            }
        }
        return left;
    }

    private int onesShifted(int page, int at, int shift) {
        int count = 0;
        for (int level : leaf(page).levels) {
            count += level + shift >= at ? 1 : 0;
        }
        return count;
    }

    int shifts(int page, int k) {
        if (leaf(page) == null) {
            return -1000;
        }
        List<Integer> left = shifts(page);
        return k == -1 ? left.size() : k < 0 || k >= left.size() ? -1000 : left.get(k);
    }

    int tells(int page, int what) {
        if (leaf(page) == null || what < 0 || what > 1 || shifts(page).isEmpty()) {
            return -1;
        }
        int best = -1;
        int fewest = 1000;
        for (int at = 0; at <= 100; at++) {
            Map<Integer, Integer> groups = new HashMap<>();
            for (int shift : shifts(page)) {
                groups.merge(onesShifted(page, at, shift), 1, Integer::sum);
            }
            int most = groups.values().stream().max(Integer::compare).get();
            if (most < fewest) {
                fewest = most;
                best = at;
            }
        }
        return what == 0 ? best : fewest;
    }

    boolean write(int page, int high, int low) {
        if (!isPage(page) || !isData(high, low)) {
            return false;
        }
        save();
        put(page, word((long) high << 30 | low), 0);
        return true;
    }

    boolean erase(int page) {
        if (leaf(page) == null) {
            return false;
        }
        save();
        state.leaves[page] = null;
        return true;
    }

    boolean flip(int page, int cell) {
        if (leaf(page) == null || cell < 0 || cell >= cells) {
            return false;
        }
        save();
        leaf(page).levels[cell] = 99 - leaf(page).levels[cell];
        return true;
    }

    int refresh(int page) {
        if (leaf(page) == null) {
            return -1;
        }
        Got got = get(leaf(page));
        if (got.last.cause != 0) {
            return -1;
        }
        save();
        put(page, got.last.result.clone(), got.last.wrong.size());
        return got.last.wrong.size();
    }

    int days(int count, boolean bySeed) {
        if (count < 1 || count > 40 || state.day + count > 999) {
            return -1;
        }
        save();
        int noises = 0;
        for (int i = 0; i < count; i++) {
            for (int page = 0; page < state.leaves.length; page++) {
                if (leaf(page) != null) {
                    passDay(leaf(page), page, state.day);
                    if (bySeed && draw(100) < told.noise) {
                        int cell = draw(cells);
                        leaf(page).levels[cell] = 99 - leaf(page).levels[cell];
                        noises++;
                    }
                }
            }
            state.day++;
        }
        if (bySeed) {
            return noises;
        }
        int good = 0;
        for (Leaf leaf : state.leaves) {
            good += leaf != null && get(leaf).isTrue ? 1 : 0;
        }
        return good;
    }

    boolean undo() {
        if (past.isEmpty()) {
            return false;
        }
        state = past.remove(past.size() - 1);
        return true;
    }

    int kept(int k, int what) {
        int size = state.kept.size();
        List<int[]> last = state.kept.subList(Math.max(0, size - 40), size);
        return k < 0 || k >= last.size() || what < 0 || what > 2 ? -1 : last.get(k)[what];
    }

    int[] image() {
        List<Integer> bytes = new ArrayList<>();
        bytes.add(state.day / 256);
        bytes.add(state.day % 256);
        for (Leaf leaf : state.leaves) {
            bytes.add(leaf == null ? 0 : 1);
            if (leaf != null) {
                bytes.add(leaf.age);
                for (int octet = 7; octet >= 0; octet--) {
                    int sum = 0;
                    for (int k = 0; k < 8; k++) {
                        int cell = 8 * octet + k;
                        sum += cell < cells && leaf.word[cell] ? 1 << k : 0;
                    }
                    bytes.add(sum);
                }
                for (int level : leaf.levels) {
                    bytes.add(level);
                }
            }
        }
        int check = 211;
        for (int octet : bytes) {
            check = (5 * check + octet) % 251;
        }
        bytes.add(check);
        return bytes.stream().mapToInt(Integer::intValue).toArray();
    }

    /** For images that are known to be good. */
    void restart(State other) {
        state = other.copy();
        state.kept.clear();
        past.clear();
    }
}
