import java.util.Arrays;

/**
 * Flash pages saved by polynomial codes: a chip is told as a text, pages are written as words of its
 * code, their cells drift by the day, and reads are mended, refused or tried anew.
 *
 * <p>Every row that a call needs is made in the constructors, so that no call makes an object.
 */
public final class FlashPages {
    public static final int NONE = -1;
    public static final int NOTHING = -1000;

    private static final int MOST_BYTES = 1600;
    private static final int MOST_STATEMENTS = 40;
    private static final int MOST_OPEN = 7;
    private static final int MOST_LETTERS = 6;
    private static final int MOST_DIGITS = 4;
    private static final int LETTER_BITS = 5;
    private static final int MOST_PAGES = 6;
    private static final int MOST_CELLS = 63;
    private static final int MOST_MENDED = 5;
    private static final int MOST_SYNDROMES = 10;
    private static final int MOST_WEIGHED_BITS = 12;
    private static final int MOST_TURNED = 3;
    private static final int MOST_AHEAD = 40;
    private static final int MOST_READS = 40;
    private static final int TRIES_UNTOLD = 8;
    private static final int LAST_DAY = 999;
    private static final int MOST_AGE = 99;
    private static final int TOP_LEVEL = 99;
    private static final int TOP_THRESHOLD = 100;
    private static final int MOST_TOLD = 40;
    private static final int MOST_UNDONE = 20;
    private static final int MOST_HELD = MOST_TOLD + MOST_UNDONE;
    private static final int ENTRY_WIDTH = 3;
    private static final int MOST_MET = 16;
    private static final int FARTHEST_SHIFT = 9;
    private static final int SHIFT_COUNT = 2 * FARTHEST_SHIFT + 1;
    // In an image, for how many DAYS and the WORD.
    private static final int ROW_HEAD = 9;
    private static final int HUNDRED = 100;
    private static final int LOWER_BITS = 30;
    private static final int MOST_RESULT = 1000000;

    // The OWN WORDS; their numbers are their places in these two texts, the one behind the other.
    private static final String STATEMENT_WORDS = "field poly mends short page high low mid step noise drifts tries";
    private static final String TERM_WORDS = "day cell level bit age tried gap at if or and not all min max";
    private static final int OWN_COUNT = 27;
    private static final int FIELD = 0;
    private static final int POLY = 1;
    private static final int MENDS = 2;
    private static final int SHORT = 3;
    private static final int PAGE = 4;
    private static final int HIGH = 5;
    private static final int LOW = 6;
    private static final int MID = 7;
    private static final int STEP = 8;
    private static final int NOISE = 9;
    private static final int DRIFTS = 10;
    private static final int TRIES = 11;
    private static final int DAY = 12;
    private static final int CELL = 13;
    private static final int LEVEL = 14;
    private static final int BIT = 15;
    private static final int AGE = 16;
    private static final int TRIED = 17;
    private static final int GAP = 18;
    private static final int AT = 19;
    private static final int IF = 20;
    private static final int OR = 21;
    private static final int AND = 22;
    private static final int NOT = 23;
    private static final int ALL = 24;
    private static final int MIN = 25;
    private static final int MAX = 26;

    // What comes next in a text: a sign's kind is its byte, those of others are below 0.
    private static final int KIND_END = -1;
    private static final int KIND_WORD = -2;
    private static final int KIND_NUMBER = -3;
    private static final int KIND_BAD = -4;

    // A program's steps: numbers from 0 on are put on the stack as they are, what works on it is below 0.
    private static final int DO_ADD = -1;
    private static final int DO_TAKE = -2;
    private static final int DO_TIMES = -3;
    private static final int DO_DIVIDE = -4;
    private static final int DO_REST = -5;
    private static final int DO_MIN = -6;
    private static final int DO_MAX = -7;
    private static final int DO_LESS = -8;
    private static final int DO_MORE = -9;
    private static final int DO_SAME = -10;
    private static final int DO_AND = -11;
    private static final int DO_OR = -12;
    private static final int DO_NOT = -13;
    private static final int DO_IF = -14;
    private static final int DO_VALUE = -100;

    private static final int REFUSED_TAPE = 0;
    private static final int REFUSED_CHIP = 1;
    private static final int REFUSED_DAYS = 2;
    private static final int REFUSED_PAGE = 3;
    private static final int REFUSED_UNDO = 4;
    private static final int REFUSED_OTHER = 5;
    private static final int REFUSED_KINDS = 6;

    private final int[] tape = new int[MOST_BYTES];
    private final int[] refused = new int[REFUSED_KINDS];
    private final Terms terms = new Terms();
    private final Decoder decoder = new Decoder();
    private final Getter getter = new Getter(decoder, terms);
    private final Pages pages = new Pages();
    private final Pages draft = new Pages();
    private final Row scratch = new Row(0);
    private final Past past = new Past();
    private final Shifts met = new Shifts();
    private final Image image = new Image();
    private Chip current = new Chip();
    private Chip spare = new Chip();
    private final Parser parser = new Parser(tape, spare);
    private boolean loaded;
    private int tapeSize;
    private int drawn = 1;

    public FlashPages() {
    }

    // ---- the tape, the chip

    public int feed(int a, int b, int c, int d, int e) {
        if (tapeSize > MOST_BYTES - 20) {
            return refuse(REFUSED_TAPE);
        }
        putNumber(a);
        putNumber(b);
        putNumber(c);
        putNumber(d);
        putNumber(e);
        return tapeSize;
    }

    public boolean end(int n) {
        if (n < 0 || n > tapeSize) {
            refuse(REFUSED_TAPE);
            return false;
        }
        tapeSize = n;
        return true;
    }

    public int chip() {
        int size = takeTape();
        if (!parser.reads(size, spare)) {
            return refuse(REFUSED_CHIP);
        }
        Chip old = current;
        current = spare;
        spare = old;
        loaded = true;
        pages.clear();
        past.clear();
        met.clear();
        decoder.forget();
        return current.statements;
    }

    public int fault(int what) {
        if (what == 0) {
            return parser.fault;
        }
        return what == 1 && parser.fault != 0 ? parser.place : NONE;
    }

    public int has(int what) {
        if (what < 0 || what > 10) {
            return NONE;
        }
        if (what == 10) {
            return drawn;
        }
        if (!loaded) {
            return 0;
        }
        Code code = current.code;
        switch (what) {
            case 0: return code.size;
            case 1: return code.checks;
            case 2: return code.cells;
            case 3: return code.bits;
            case 4: return current.pages;
            case 5: return pages.writtenCount();
            case 6: return pages.day;
            case 7: return past.told();
            case 8: return met.rows;
            default: return past.count;
        }
    }

    public int letter(int page, int k) {
        if (!isPage(page) || k < 0 || k >= MOST_LETTERS) {
            return NONE;
        }
        return current.names[page] >> (LETTER_BITS * (MOST_LETTERS - 1 - k)) & 31;
    }

    // ---- the field, the code

    public int field(int k, int what) {
        if (!loaded) {
            return NONE;
        }
        Code code = current.code;
        if (what == 1) {
            return k >= 1 && k <= code.size ? code.exponents[k] : NONE;
        }
        if (k < 0 || k >= code.size) {
            return NONE;
        }
        if (what == 0) {
            return code.powers[k];
        }
        return what == 2 ? code.leastPolynomial(k) : NONE;
    }

    public int generator(int k) {
        if (!loaded || k < 0 || k >= MOST_CELLS) {
            return NONE;
        }
        return bitOf(current.code.divisor, k);
    }

    public int word(int high, int low, int k) {
        if (!isData(high, low) || k < 0 || k >= current.code.cells) {
            return NONE;
        }
        return bitOf(current.code.encode(dataOf(high, low)), k);
    }

    public int weight(int ones) {
        if (!loaded || ones < 0 || ones > MOST_CELLS || current.code.bits > MOST_WEIGHED_BITS) {
            return NONE;
        }
        return current.code.wordsOfWeight(ones);
    }

    public int patterns(int n, int what) {
        if (!loaded || n < 1 || n > MOST_TURNED || n > current.code.cells || what < 0 || what > 2) {
            return NONE;
        }
        Code code = current.code;
        int all = code.patternCount(n);
        if (n <= code.mends) {
            return what == 0 ? all : 0;
        }
        // More cells than are ever turned back can't be mended.
        if (what == 0) {
            return 0;
        }
        int missed = code.missedCount(n);
        return what == 1 ? missed : all - missed;
    }

    // ---- pages

    public int page(int page, int what) {
        if (!isPage(page) || what < 0 || what > 2) {
            return NONE;
        }
        Row row = pages.rows[page];
        if (!row.written) {
            return 0;
        }
        if (what == 0) {
            return 1;
        }
        return what == 1 ? row.age : Long.bitCount(row.word);
    }

    public int level(int page, int cell, int n) {
        if (!isWritten(page) || !isCell(cell) || n < 0 || !daysFit(n)) {
            return NONE;
        }
        Row row = pages.rows[page];
        int level = row.levels[cell];
        for (int i = 0; i < n; i++) {
            terms.setDay(row, pages.day + i, older(row.age, i));
            level = terms.drifted(current, row.word, cell, level);
        }
        return level;
    }

    public int ones(int page, int at) {
        if (!isRead(page, at)) {
            return NONE;
        }
        return Long.bitCount(pages.rows[page].readBy(at, current.code.cells));
    }

    public int syndrome(int page, int at, int j) {
        if (!isRead(page, at) || j < 1 || j > 2 * current.code.mends) {
            return NONE;
        }
        decode(page, at);
        return decoder.syndromes[j];
    }

    public int locator(int page, int at, int k) {
        if (!isRead(page, at) || k < 0) {
            return NONE;
        }
        decode(page, at);
        if (k == 0) {
            return decoder.length;
        }
        return decoder.cause == 1 || k > decoder.length ? NONE : decoder.factors[k];
    }

    public int wrong(int page, int at, int k) {
        if (!isRead(page, at) || k < NONE) {
            return NONE;
        }
        decode(page, at);
        if (decoder.cause != 0 || k >= decoder.length) {
            return NONE;
        }
        return k == NONE ? decoder.length : decoder.roots[k];
    }

    public int why(int page, int at) {
        if (!isRead(page, at)) {
            return NONE;
        }
        decode(page, at);
        return decoder.cause;
    }

    public int got(int page, int what) {
        if (!isWritten(page) || what < 0 || what > 6) {
            return NONE;
        }
        Row row = pages.rows[page];
        getter.get(current, row);
        boolean isLost = getter.cause != 0;
        long data = getter.result >>> current.code.checks;
        switch (what) {
            case 0: return isLost ? NONE : getter.mended;
            case 1: return getter.reads;
            case 2: return getter.threshold;
            case 3: return getter.isTrue ? 1 : 0;
            case 4: return getter.cause;
            case 5: return isLost ? NONE : (int) (data & (1L << LOWER_BITS) - 1);
            default: return isLost ? NONE : (int) (data >>> LOWER_BITS);
        }
    }

    public int span(int page, int what) {
        if (!isWritten(page) || what < 0 || what > 1) {
            return NONE;
        }
        Row row = pages.rows[page];
        Code code = current.code;
        int found = NONE;
        for (int at = 1; at < TOP_THRESHOLD; at++) {
            if (row.isTrueRead(row.readBy(at, code.cells), code.mends)) {
                if (what == 0) {
                    return at;
                }
                found = at;
            }
        }
        return found;
    }

    public int lost(int page) {
        if (!isWritten(page)) {
            return NONE;
        }
        scratch.copy(pages.rows[page]);
        for (int n = 0; n <= MOST_AHEAD && pages.day + n <= LAST_DAY; n++) {
            getter.get(current, scratch);
            if (!getter.isTrue) {
                return n;
            }
            terms.passDay(current, scratch, pages.day + n);
        }
        return NONE;
    }

    public int odds(int page) {
        if (!loaded || pages.day >= LAST_DAY) {
            return NONE;
        }
        int cells = current.code.cells;
        if (page == NONE) {
            return HUNDRED * cells;
        }
        if (!isWritten(page)) {
            return NONE;
        }
        scratch.copy(pages.rows[page]);
        terms.passDay(current, scratch, pages.day);
        getter.get(current, scratch);
        int quiet = getter.isTrue ? cells : 0;
        int noisy = 0;
        for (int cell = 0; cell < cells; cell++) {
            scratch.turn(cell);
            getter.get(current, scratch);
            noisy += getter.isTrue ? 1 : 0;
            scratch.turn(cell);
        }
        return (HUNDRED - current.noise) * quiet + current.noise * noisy;
    }

    // ---- how far levels shifted

    public int meet() {
        int size = takeTape();
        if (!loaded || !met.takes(tape, size)) {
            return refuse(REFUSED_OTHER);
        }
        return met.rows;
    }

    public int shifts(int page, int k) {
        if (!isWritten(page) || k < NONE) {
            return NOTHING;
        }
        met.find(pages.rows[page], current.code.cells);
        if (k == NONE) {
            return met.fitCount;
        }
        return k < met.fitCount ? met.fits[k] : NOTHING;
    }

    public int tells(int page, int what) {
        if (!isWritten(page) || what < 0 || what > 1) {
            return NONE;
        }
        met.find(pages.rows[page], current.code.cells);
        if (met.fitCount == 0) {
            return NONE;
        }
        met.findTelling();
        return what == 0 ? met.telling : met.leftAtMost;
    }

    // ---- acts

    public boolean write(int page, int high, int low) {
        if (!isPage(page) || !isData(high, low)) {
            refuse(REFUSED_PAGE);
            return false;
        }
        past.save(pages);
        pages.rows[page].fill(current, current.code.encode(dataOf(high, low)));
        past.add(pages.day, page, 0);
        return true;
    }

    public boolean erase(int page) {
        if (!isWritten(page)) {
            refuse(REFUSED_PAGE);
            return false;
        }
        past.save(pages);
        pages.rows[page].clear();
        return true;
    }

    public boolean flip(int page, int cell) {
        if (!isWritten(page) || !isCell(cell)) {
            refuse(REFUSED_PAGE);
            return false;
        }
        past.save(pages);
        pages.rows[page].turn(cell);
        return true;
    }

    public int refresh(int page) {
        if (!isWritten(page)) {
            return refuse(REFUSED_PAGE);
        }
        Row row = pages.rows[page];
        getter.get(current, row);
        if (getter.cause != 0) {
            return refuse(REFUSED_PAGE);
        }
        past.save(pages);
        row.fill(current, getter.result);
        past.add(pages.day, page, getter.mended);
        return getter.mended;
    }

    public int days(int n) {
        if (!loaded || n < 1 || !daysFit(n)) {
            return refuse(REFUSED_DAYS);
        }
        past.save(pages);
        for (int i = 0; i < n; i++) {
            passDay();
        }
        int count = 0;
        for (int i = 0; i < current.pages; i++) {
            if (pages.rows[i].written) {
                getter.get(current, pages.rows[i]);
                count += getter.isTrue ? 1 : 0;
            }
        }
        return count;
    }

    public int chance(int n) {
        if (!loaded || n < 1 || !daysFit(n)) {
            return refuse(REFUSED_DAYS);
        }
        past.save(pages);
        int count = 0;
        for (int i = 0; i < n; i++) {
            passDay();
            count += addNoise();
        }
        return count;
    }

    public boolean undo() {
        if (past.count == 0) {
            refuse(REFUSED_UNDO);
            return false;
        }
        past.restore(pages);
        return true;
    }

    public boolean seed(int seed) {
        if (seed < 0) {
            refuse(REFUSED_OTHER);
            return false;
        }
        drawn = seed;
        return true;
    }

    public int kept(int k, int what) {
        if (k < 0 || k >= past.told() || what < 0 || what > 2) {
            return NONE;
        }
        return past.entry(k, what);
    }

    // ---- images, refusals

    public int image() {
        image.build(pages, current, loaded ? current.pages : 0);
        return image.size;
    }

    public int octet(int k) {
        return k >= 0 && k < image.size ? image.bytes[k] : NONE;
    }

    public boolean on() {
        int size = takeTape();
        if (!loaded || !draft.takes(tape, size, current)) {
            refuse(REFUSED_OTHER);
            return false;
        }
        pages.copy(draft);
        past.clear();
        return true;
    }

    public int status(int what) {
        return what >= 0 && what < REFUSED_KINDS ? refused[what] : NONE;
    }

    // ---- what the calls share

    private int refuse(int kind) {
        refused[kind]++;
        return NONE;
    }

    private void putNumber(int number) {
        for (int shift = 24; shift >= 0; shift -= 8) {
            if (tapeSize < MOST_BYTES) {
                tape[tapeSize] = number >> shift & 255;
                tapeSize++;
            }
        }
    }

    private int takeTape() {
        int size = tapeSize;
        tapeSize = 0;
        return size;
    }

    private boolean isPage(int page) {
        return loaded && page >= 0 && page < current.pages;
    }

    private boolean isWritten(int page) {
        return isPage(page) && pages.rows[page].written;
    }

    private boolean isCell(int cell) {
        return loaded && cell >= 0 && cell < current.code.cells;
    }

    private boolean isRead(int page, int at) {
        return isWritten(page) && at >= 0 && at <= TOP_THRESHOLD;
    }

    private boolean isData(int high, int low) {
        if (!loaded || high < 0 || low < 0 || low >= 1 << LOWER_BITS) {
            return false;
        }
        return dataOf(high, low) >>> current.code.bits == 0;
    }

    private boolean daysFit(int n) {
        return n <= MOST_AHEAD && pages.day + n <= LAST_DAY;
    }

    private void decode(int page, int at) {
        decoder.decode(current.code, pages.rows[page].readBy(at, current.code.cells));
    }

    private void passDay() {
        for (int i = 0; i < current.pages; i++) {
            if (pages.rows[i].written) {
                terms.passDay(current, pages.rows[i], pages.day);
            }
        }
        pages.day++;
    }

    private int addNoise() {
        int count = 0;
        for (int i = 0; i < current.pages; i++) {
            if (pages.rows[i].written && draw(HUNDRED) < current.noise) {
                pages.rows[i].turn(draw(current.code.cells));
                count++;
            }
        }
        return count;
    }

    private int draw(int below) {
        drawn = (int) ((1103515245L * drawn + 12345L) % (1L << 31));
        return below > 0 ? drawn / 64 % below : 0;
    }

    private static long dataOf(int high, int low) {
        return (long) high << LOWER_BITS | low;
    }

    private static int bitOf(long bits, int k) {
        return (int) (bits >>> k & 1L);
    }

    private static int older(int age, int days) {
        return Math.min(age + days, MOST_AGE);
    }

    /** THE FIELD, THE GENERATOR, and what words and patterns they make. */
    private static final class Code {
        final int[] powers = new int[MOST_CELLS];
        final int[] exponents = new int[MOST_CELLS + 1];
        final int[] weights = new int[MOST_CELLS + 1];
        final long[] mendable = new long[MOST_CELLS + 1];
        final int[] missed = new int[MOST_TURNED + 1];
        boolean isWeighed;
        int degree;
        int size;
        int mends;
        int checks;
        int cells;
        int bits;
        long divisor;

        /** False where poly is not PRIMITIVE of the degree (3 .. 6). */
        boolean takesPoly(int degree, int poly) {
            this.degree = degree;
            size = (1 << degree) - 1;
            if (poly >> degree != 1) {
                return false;
            }
            int x = 1;
            for (int k = 0; k < size; k++) {
                if (k > 0 && x == 1) {
                    return false;
                }
                powers[k] = x;
                exponents[x] = k;
                x <<= 1;
                if (x >> degree == 1) {
                    x ^= poly;
                }
            }
            return x == 1;
        }

        /** False where no bit is left for DATA. */
        boolean takesMends(int mends) {
            this.mends = mends;
            divisor = 1;
            checks = 0;
            for (int j = 1; j <= 2 * mends; j++) {
                int exponent = j < size ? j : j - size;
                if (valueAt(divisor, exponent) != 0) {
                    multiplyDivisor(leastPolynomial(exponent));
                }
            }
            return checks < size;
        }

        /** False where no bit of DATA would stay. */
        boolean takesShort(int away) {
            cells = size - away;
            bits = cells - checks;
            isWeighed = false;
            Arrays.fill(missed, NONE);
            return bits > 0;
        }

        private void multiplyDivisor(int factor) {
            long product = 0;
            for (int k = 0; k <= degree; k++) {
                if ((factor >> k & 1) == 1) {
                    product ^= divisor << k;
                }
            }
            divisor = product;
            for (int k = 0; k < MOST_CELLS; k++) {
                if (bitOf(product, k) == 1) {
                    checks = k;
                }
            }
        }

        int product(int x, int y) {
            if (x == 0 || y == 0) {
                return 0;
            }
            int exponent = exponents[x] + exponents[y];
            return powers[exponent < size ? exponent : exponent - size];
        }

        int inverse(int x) {
            int exponent = exponents[x];
            return powers[exponent == 0 ? 0 : size - exponent];
        }

        /** What a polynomial over two elements gives at a to the k (0 .. N - 1). */
        int valueAt(long polynomial, int k) {
            int sum = 0;
            int exponent = 0;
            for (int i = 0; i < MOST_CELLS && polynomial >>> i != 0; i++) {
                if (bitOf(polynomial, i) == 1) {
                    sum ^= powers[exponent];
                }
                exponent += k;
                if (exponent >= size) {
                    exponent -= size;
                }
            }
            return sum;
        }

        /** The lowest number is of least degree too, and no degree above m is needed. */
        int leastPolynomial(int k) {
            for (int polynomial = 2; polynomial < 2 << degree; polynomial++) {
                if (valueAt(polynomial, k) == 0) {
                    return polynomial;
                }
            }
            return 0;
        }

        long encode(long data) {
            long shifted = data << checks;
            long rest = shifted;
            for (int k = cells - 1; k >= checks; k--) {
                if ((rest >>> k & 1L) == 1L) {
                    rest ^= divisor << (k - checks);
                }
            }
            return shifted | rest;
        }

        boolean isCodeWord(long cellBits) {
            return cellBits >>> cells == 0 && encode(cellBits >>> checks) == cellBits;
        }

        int wordsOfWeight(int ones) {
            if (!isWeighed) {
                Arrays.fill(weights, 0);
                for (int data = 0; data < 1 << bits; data++) {
                    weights[Long.bitCount(encode(data))]++;
                }
                isWeighed = true;
            }
            return weights[ones];
        }

        int patternCount(int n) {
            if (n == 1) {
                return cells;
            }
            int pairs = cells * (cells - 1) / 2;
            return n == 2 ? pairs : pairs * (cells - 2) / 3;
        }

        /** Of n cells turned, n being above t (so that t is 1 or 2), by how many sets a wrong word is read. */
        int missedCount(int n) {
            if (missed[n] == NONE) {
                markMendable();
                missed[n] = countMendable(n);
            }
            return missed[n];
        }

        /** Syndromes 1 and 3 tell all four, 1 tells both: those of up to t cells are just the ones not refused. */
        private void markMendable() {
            Arrays.fill(mendable, 0L);
            mark(0, 0);
            for (int i = 0; i < cells; i++) {
                mark(powers[i], thirdOf(i));
                if (mends > 1) {
                    for (int j = 0; j < i; j++) {
                        mark(powers[i] ^ powers[j], thirdOf(i) ^ thirdOf(j));
                    }
                }
            }
        }

        private int countMendable(int n) {
            int count = 0;
            for (int i = 0; i < cells; i++) {
                for (int j = 0; j < i; j++) {
                    int first = powers[i] ^ powers[j];
                    int third = thirdOf(i) ^ thirdOf(j);
                    if (n == 2) {
                        count += marked(first, third);
                    } else {
                        for (int k = 0; k < j; k++) {
                            count += marked(first ^ powers[k], third ^ thirdOf(k));
                        }
                    }
                }
            }
            return count;
        }

        private int thirdOf(int cell) {
            return mends > 1 && size > 0 ? powers[3 * cell % size] : 0;
        }

        private void mark(int first, int third) {
            mendable[first] |= 1L << third;
        }

        private int marked(int first, int third) {
            return (int) (mendable[first] >>> third & 1L);
        }
    }

    /** A READ that is mended or REFUSED: its syndromes, its locator, its roots. */
    private static final class Decoder {
        final int[] syndromes = new int[MOST_SYNDROMES + 1];
        final int[] factors = new int[MOST_SYNDROMES + 2];
        final int[] former = new int[MOST_SYNDROMES + 2];
        final int[] saved = new int[MOST_SYNDROMES + 2];
        final int[] roots = new int[MOST_MENDED];
        boolean isFresh;
        long read;
        long result;
        int length;
        int cause;

        void forget() {
            isFresh = false;
        }

        /** The next threshold often reads the same, so the last answer is kept. */
        void decode(Code code, long cellBits) {
            if (isFresh && read == cellBits) {
                return;
            }
            isFresh = true;
            read = cellBits;
            result = cellBits;
            for (int j = 1; j < 2 * code.mends; j += 2) {
                syndromes[j] = code.valueAt(cellBits, j);
            }
            // Over two elements, what a polynomial gives at a square is the square of what it gives.
            for (int j = 1; j <= code.mends; j++) {
                syndromes[2 * j] = code.product(syndromes[j], syndromes[j]);
            }
            findFactors(code);
            cause = length > code.mends ? 1 : findRoots(code);
            if (cause == 0) {
                for (int i = 0; i < length; i++) {
                    result ^= 1L << roots[i];
                }
            }
        }

        /** Berlekamp and Massey's way to the shortest recurrence. */
        private void findFactors(Code code) {
            Arrays.fill(factors, 0);
            Arrays.fill(former, 0);
            factors[0] = 1;
            former[0] = 1;
            length = 0;
            int behind = 1;
            int formerGap = 1;
            for (int j = 1; j <= 2 * code.mends; j++) {
                int gap = gapAt(code, j);
                if (gap == 0) {
                    behind++;
                } else if (2 * length < j) {
                    System.arraycopy(factors, 0, saved, 0, saved.length);
                    correct(code, code.product(gap, code.inverse(formerGap)), behind);
                    System.arraycopy(saved, 0, former, 0, former.length);
                    length = j - length;
                    formerGap = gap;
                    behind = 1;
                } else {
                    correct(code, code.product(gap, code.inverse(formerGap)), behind);
                    behind++;
                }
            }
        }

        private int gapAt(Code code, int j) {
            int gap = syndromes[j];
            for (int i = 1; i <= length && i < j; i++) {
                gap ^= code.product(factors[i], syndromes[j - i]);
            }
            return gap;
        }

        private void correct(Code code, int times, int behind) {
            for (int i = behind; i < factors.length; i++) {
                factors[i] ^= code.product(times, former[i - behind]);
            }
        }

        private int findRoots(Code code) {
            int count = 0;
            boolean isOutside = false;
            for (int p = 0; p < code.size; p++) {
                if (isRoot(code, p)) {
                    if (count < roots.length) {
                        roots[count] = p;
                    }
                    count++;
                    isOutside |= p >= code.cells;
                }
            }
            if (count != length) {
                return 2;
            }
            return isOutside ? 3 : 0;
        }

        private boolean isRoot(Code code, int p) {
            int step = p == 0 ? 0 : code.size - p;
            int exponent = 0;
            int sum = 0;
            for (int i = 1; i <= length; i++) {
                exponent += step;
                if (exponent >= code.size) {
                    exponent -= code.size;
                }
                sum ^= code.product(factors[i], code.powers[exponent]);
            }
            return sum == 1;
        }
    }

    /** What a text told: THE CHIP. */
    private static final class Chip {
        final Code code = new Code();
        final int[] names = new int[MOST_PAGES];
        final int[] program = new int[MOST_BYTES];
        int programSize;
        int driftsFrom;
        int driftsTo;
        int triesFrom;
        int triesTo;
        int statements;
        int pages;
        int high;
        int low;
        int mid;
        int step;
        int noise;

        void clear() {
            programSize = 0;
            driftsFrom = 0;
            driftsTo = 0;
            triesFrom = 0;
            triesTo = 0;
            statements = 0;
            pages = 0;
            high = 70;
            low = 30;
            mid = 50;
            step = 3;
            noise = 0;
        }

        boolean hasDrifts() {
            return driftsFrom < driftsTo;
        }

        boolean hasTries() {
            return triesFrom < triesTo;
        }

        boolean hasName(int name) {
            for (int i = 0; i < pages; i++) {
                if (names[i] == name) {
                    return true;
                }
            }
            return false;
        }

        void addStep(int which) {
            if (programSize < program.length) {
                program[programSize] = which;
                programSize++;
            }
        }
    }

    /** Reads a text into a chip, up to its first FAULT. */
    private static final class Parser {
        final int[] ownWords = new int[OWN_COUNT];
        final int[] text;
        Chip chip;
        int size;
        int fault;
        int place;
        // The word, number or sign that comes next.
        int kind;
        int start;
        int badPlace;
        int after;
        int value;
        int own;
        boolean inDrifts;

        Parser(int[] text, Chip chip) {
            this.text = text;
            this.chip = chip;
            int count = listWords(STATEMENT_WORDS, 0, ownWords);
            listWords(TERM_WORDS, count, ownWords);
        }

        /** How many words the list has then; letters stand from the left on, so that what is behind a word is 0. */
        private static int listWords(String words, int from, int[] list) {
            int count = from;
            int name = 0;
            int letters = 0;
            for (int i = 0; i <= words.length(); i++) {
                int sign = i < words.length() ? words.charAt(i) : ' ';
                if (sign != ' ') {
                    name = name << LETTER_BITS | sign - 'a' + 1;
                    letters++;
                } else if (count < list.length) {
                    list[count] = name << LETTER_BITS * (MOST_LETTERS - letters);
                    count++;
                    name = 0;
                    letters = 0;
                }
            }
            return count;
        }

        boolean reads(int textSize, Chip target) {
            size = Math.min(textSize, text.length);
            chip = target;
            chip.clear();
            fault = 0;
            place = NONE;
            after = 0;
            look();
            if (!readField() || !readSign(';')) {
                return false;
            }
            chip.statements = 1;
            for (int i = 0; i < MOST_STATEMENTS && kind != KIND_END; i++) {
                if (chip.statements == MOST_STATEMENTS) {
                    return failBy(6, start);
                }
                if (!readStatement() || !readSign(';')) {
                    return false;
                }
                chip.statements++;
            }
            return true;
        }

        // ---- words, numbers, signs

        private void look() {
            int at = after;
            while (at < size && (text[at] == 10 || text[at] == 32)) {
                at++;
            }
            start = at;
            badPlace = at;
            own = NONE;
            value = 0;
            if (at >= size) {
                kind = KIND_END;
                after = size;
            } else if (!isLetter(text[at]) && !isDigit(text[at])) {
                kind = text[at];
                after = at + 1;
            } else if (at > 0 && at == after && (isLetter(text[at - 1]) || isDigit(text[at - 1]))) {
                kind = KIND_BAD;
            } else if (isLetter(text[at])) {
                lookAtWord();
            } else {
                lookAtNumber();
            }
        }

        private void lookAtWord() {
            int count = 0;
            for (int at = start; at < size && count <= MOST_LETTERS; at++) {
                int letter = text[at] - 'a' + 1;
                if (letter < 1 || letter > 26) {
                    break;
                }
                value = value << LETTER_BITS | letter;
                count++;
            }
            after = start + count;
            if (count > MOST_LETTERS) {
                kind = KIND_BAD;
                badPlace = start + MOST_LETTERS;
                return;
            }
            kind = KIND_WORD;
            value <<= LETTER_BITS * (MOST_LETTERS - count);
            for (int i = 0; i < OWN_COUNT; i++) {
                if (ownWords[i] == value) {
                    own = i;
                }
            }
        }

        private void lookAtNumber() {
            int count = 0;
            for (int at = start; at < size && count <= MOST_DIGITS; at++) {
                int digit = text[at] - '0';
                if (digit < 0 || digit > 9) {
                    break;
                }
                value = value * 10 + digit;
                count++;
            }
            after = start + count;
            kind = KIND_NUMBER;
            if (count > MOST_DIGITS) {
                kind = KIND_BAD;
                badPlace = start + MOST_DIGITS;
            }
        }

        private static boolean isLetter(int sign) {
            return sign >= 'a' && sign <= 'z';
        }

        private static boolean isDigit(int sign) {
            return sign >= '0' && sign <= '9';
        }

        private boolean failBy(int number, int at) {
            fault = number;
            place = at;
            return false;
        }

        private boolean failHere() {
            return failBy(1, badPlace);
        }

        private boolean isOwn(int which) {
            return kind == KIND_WORD && own == which;
        }

        private boolean readOwn(int which) {
            if (!isOwn(which)) {
                return failHere();
            }
            look();
            return true;
        }

        private boolean readSign(int sign) {
            if (kind != sign) {
                return failHere();
            }
            look();
            return true;
        }

        /** NONE with a FAULT. */
        private int readNumber(int least, int most) {
            if (kind != KIND_NUMBER) {
                failHere();
                return NONE;
            }
            if (value < least || value > most) {
                failBy(4, start);
                return NONE;
            }
            int number = value;
            look();
            return number;
        }

        // ---- statements

        private boolean readField() {
            if (!readOwn(FIELD)) {
                return false;
            }
            int degree = readNumber(3, 6);
            if (degree == NONE || !readOwn(POLY)) {
                return false;
            }
            if (kind == KIND_NUMBER && !chip.code.takesPoly(degree, value)) {
                return failBy(4, start);
            }
            if (readNumber(0, 9999) == NONE || !readOwn(MENDS)) {
                return false;
            }
            int mendsAt = start;
            int mends = readNumber(1, MOST_MENDED);
            if (mends == NONE) {
                return false;
            }
            if (!chip.code.takesMends(mends)) {
                return failBy(4, mendsAt);
            }
            if (!readOwn(SHORT)) {
                return false;
            }
            if (kind == KIND_NUMBER && !chip.code.takesShort(value)) {
                return failBy(4, start);
            }
            return readNumber(0, 9999) != NONE;
        }

        private boolean readStatement() {
            if (kind != KIND_WORD) {
                return failHere();
            }
            switch (own) {
                case PAGE: return readPage();
                case DRIFTS: return readDrifts();
                case TRIES: return readTries();
                default: return readSetting();
            }
        }

        private boolean readSetting() {
            int which = own;
            if (which < HIGH || which > NOISE) {
                return failHere();
            }
            look();
            switch (which) {
                case HIGH:
                    chip.high = readNumber(51, 99);
                    return chip.high != NONE;
                case LOW:
                    chip.low = readNumber(0, 49);
                    return chip.low != NONE;
                case MID:
                    chip.mid = readNumber(1, 99);
                    return chip.mid != NONE;
                case STEP:
                    chip.step = readNumber(1, 20);
                    return chip.step != NONE;
                default:
                    chip.noise = readNumber(0, HUNDRED);
                    return chip.noise != NONE;
            }
        }

        private boolean readPage() {
            if (chip.pages >= MOST_PAGES) {
                return failBy(6, start);
            }
            look();
            if (kind != KIND_WORD || own != NONE) {
                return failHere();
            }
            if (chip.hasName(value)) {
                return failBy(2, start);
            }
            chip.names[chip.pages] = value;
            chip.pages++;
            look();
            return true;
        }

        private boolean readDrifts() {
            if (chip.hasDrifts()) {
                return failBy(6, start);
            }
            look();
            inDrifts = true;
            chip.driftsFrom = chip.programSize;
            if (!readSum(0)) {
                return false;
            }
            chip.driftsTo = chip.programSize;
            return true;
        }

        private boolean readTries() {
            if (chip.hasTries()) {
                return failBy(6, start);
            }
            look();
            inDrifts = false;
            chip.triesFrom = chip.programSize;
            if (!readTest(0)) {
                return false;
            }
            chip.triesTo = chip.programSize;
            return true;
        }

        // ---- sums and tests; open is how many ( [ not are open, and keeps the recursion low

        private boolean readOpening(int sign, int open) {
            if (kind != sign) {
                return failHere();
            }
            if (open >= MOST_OPEN) {
                return failBy(5, start);
            }
            look();
            return true;
        }

        private boolean readSum(int open) {
            if (!readProduct(open)) {
                return false;
            }
            for (int i = 0; i < MOST_BYTES && (kind == '+' || kind == '-'); i++) {
                int step = kind == '+' ? DO_ADD : DO_TAKE;
                look();
                if (!readProduct(open)) {
                    return false;
                }
                chip.addStep(step);
            }
            return true;
        }

        private boolean readProduct(int open) {
            if (!readPart(open)) {
                return false;
            }
            for (int i = 0; i < MOST_BYTES && (kind == '*' || kind == '/' || kind == '%'); i++) {
                int step = kind == '*' ? DO_TIMES : kind == '/' ? DO_DIVIDE : DO_REST;
                look();
                if (!readPart(open)) {
                    return false;
                }
                chip.addStep(step);
            }
            return true;
        }

        private boolean readPart(int open) {
            if (kind == KIND_NUMBER) {
                chip.addStep(value);
                look();
                return true;
            }
            if (kind == '(') {
                return readOpening('(', open) && readSum(open + 1) && readSign(')');
            }
            if (isOwn(MIN) || isOwn(MAX)) {
                return readPair(open, isOwn(MIN) ? DO_MIN : DO_MAX);
            }
            if (isOwn(IF)) {
                return readChoice(open);
            }
            if (kind != KIND_WORD || !isValue(own)) {
                return failHere();
            }
            chip.addStep(DO_VALUE - own);
            look();
            return true;
        }

        private boolean isValue(int which) {
            if (inDrifts) {
                return which == PAGE || which >= DAY && which <= AGE;
            }
            return which >= TRIED && which <= AT;
        }

        private boolean readPair(int open, int step) {
            look();
            if (!readOpening('(', open) || !readSum(open + 1) || !readSign(',')) {
                return false;
            }
            if (!readSum(open + 1) || !readSign(')')) {
                return false;
            }
            chip.addStep(step);
            return true;
        }

        private boolean readChoice(int open) {
            look();
            if (!readOpening('(', open) || !readTest(open + 1) || !readSign(',')) {
                return false;
            }
            if (!readSum(open + 1) || !readSign(',') || !readSum(open + 1) || !readSign(')')) {
                return false;
            }
            chip.addStep(DO_IF);
            return true;
        }

        private boolean readTest(int open) {
            if (!readBoth(open)) {
                return false;
            }
            for (int i = 0; i < MOST_BYTES && isOwn(OR); i++) {
                look();
                if (!readBoth(open)) {
                    return false;
                }
                chip.addStep(DO_OR);
            }
            return true;
        }

        private boolean readBoth(int open) {
            if (!readFact(open)) {
                return false;
            }
            for (int i = 0; i < MOST_BYTES && isOwn(AND); i++) {
                look();
                if (!readFact(open)) {
                    return false;
                }
                chip.addStep(DO_AND);
            }
            return true;
        }

        private boolean readFact(int open) {
            if (isOwn(NOT)) {
                if (open >= MOST_OPEN) {
                    return failBy(5, start);
                }
                look();
                if (!readFact(open + 1)) {
                    return false;
                }
                chip.addStep(DO_NOT);
                return true;
            }
            if (kind == '[') {
                return readOpening('[', open) && readTest(open + 1) && readSign(']');
            }
            if (isOwn(ALL)) {
                chip.addStep(1);
                look();
                return true;
            }
            return readComparison(open);
        }

        private boolean readComparison(int open) {
            if (!readSum(open)) {
                return false;
            }
            if (kind != '<' && kind != '>' && kind != '=') {
                return failHere();
            }
            int step = kind == '<' ? DO_LESS : kind == '>' ? DO_MORE : DO_SAME;
            look();
            if (!readSum(open)) {
                return false;
            }
            chip.addStep(step);
            return true;
        }
    }

    /** Runs the programs of drifts and tries. */
    private static final class Terms {
        final int[] values = new int[OWN_COUNT];
        // Seven open at once, some seven waiting results in each, and the outermost.
        final int[] stack = new int[96];
        int top;

        void setDay(Row row, int day, int age) {
            values[DAY] = day;
            values[PAGE] = row.number;
            values[AGE] = age;
        }

        /** The level of a cell behind the DAY that setDay() told. */
        int drifted(Chip chip, long word, int cell, int level) {
            if (!chip.hasDrifts()) {
                return level;
            }
            values[CELL] = cell;
            values[LEVEL] = level;
            values[BIT] = bitOf(word, cell);
            int sum = level + run(chip, chip.driftsFrom, chip.driftsTo);
            return Math.max(0, Math.min(TOP_LEVEL, sum));
        }

        void passDay(Chip chip, Row row, int day) {
            setDay(row, day, row.age);
            for (int cell = 0; cell < chip.code.cells; cell++) {
                row.levels[cell] = drifted(chip, row.word, cell, row.levels[cell]);
            }
            row.age = older(row.age, 1);
        }

        boolean triesAgain(Chip chip, int tried, int gap, int at) {
            if (!chip.hasTries()) {
                return tried < TRIES_UNTOLD;
            }
            values[TRIED] = tried;
            values[GAP] = gap;
            values[AT] = at;
            return run(chip, chip.triesFrom, chip.triesTo) != 0;
        }

        private int run(Chip chip, int from, int to) {
            top = 0;
            for (int i = from; i < to && i < chip.program.length; i++) {
                int step = chip.program[i];
                if (step >= 0) {
                    push(step);
                } else if (step <= DO_VALUE) {
                    push(valueOf(DO_VALUE - step));
                } else if (step == DO_NOT) {
                    push(1 - pop());
                } else if (step == DO_IF) {
                    int second = pop();
                    int first = pop();
                    push(pop() != 0 ? first : second);
                } else {
                    int right = pop();
                    int left = pop();
                    push(joined(step, left, right));
                }
            }
            return pop();
        }

        private int valueOf(int which) {
            return which >= 0 && which < values.length ? values[which] : 0;
        }

        private void push(int value) {
            if (top >= 0 && top < stack.length) {
                stack[top] = value;
                top++;
            }
        }

        private int pop() {
            if (top <= 0 || top > stack.length) {
                return 0;
            }
            top--;
            return stack[top];
        }

        private static int joined(int step, int left, int right) {
            switch (step) {
                case DO_ADD: return bounded((long) left + right);
                case DO_TAKE: return bounded((long) left - right);
                case DO_TIMES: return bounded((long) left * right);
                case DO_DIVIDE: return right == 0 ? 0 : bounded(Math.floorDiv((long) left, (long) right));
                case DO_REST: return right == 0 ? 0 : bounded(Math.floorMod((long) left, (long) right));
                case DO_MIN: return Math.min(left, right);
                case DO_MAX: return Math.max(left, right);
                case DO_LESS: return left < right ? 1 : 0;
                case DO_MORE: return left > right ? 1 : 0;
                case DO_SAME: return left == right ? 1 : 0;
                case DO_AND: return left & right;
                default: return left | right;
            }
        }

        private static int bounded(long result) {
            return (int) Math.max(-MOST_RESULT, Math.min(MOST_RESULT, result));
        }
    }

    /** One PAGE: whether it is written, its WORD, its levels. */
    private static final class Row {
        final int[] levels = new int[MOST_CELLS];
        int number;
        boolean written;
        int age;
        long word;

        Row(int number) {
            this.number = number;
        }

        void clear() {
            written = false;
            age = 0;
            word = 0;
        }

        void copy(Row from) {
            number = from.number;
            written = from.written;
            age = from.age;
            word = from.word;
            System.arraycopy(from.levels, 0, levels, 0, levels.length);
        }

        void fill(Chip chip, long newWord) {
            written = true;
            age = 0;
            word = newWord;
            for (int cell = 0; cell < chip.code.cells; cell++) {
                levels[cell] = bitOf(newWord, cell) == 1 ? chip.high : chip.low;
            }
        }

        void turn(int cell) {
            levels[cell] = TOP_LEVEL - levels[cell];
        }

        long readBy(int at, int cells) {
            long bits = 0;
            for (int cell = 0; cell < cells; cell++) {
                if (levels[cell] >= at) {
                    bits |= 1L << cell;
                }
            }
            return bits;
        }

        /** Up to t wrong cells are always mended, and no more are ever turned: how many there are tells. */
        boolean isTrueRead(long bits, int mends) {
            return Long.bitCount(bits ^ word) <= mends;
        }
    }

    /** The DAY and all PAGES. */
    private static final class Pages {
        final Row[] rows = new Row[MOST_PAGES];
        int day;

        Pages() {
            for (int i = 0; i < MOST_PAGES; i++) {
                rows[i] = new Row(i);
            }
        }

        void clear() {
            day = 0;
            for (int i = 0; i < MOST_PAGES; i++) {
                rows[i].clear();
            }
        }

        void copy(Pages from) {
            day = from.day;
            for (int i = 0; i < MOST_PAGES; i++) {
                rows[i].copy(from.rows[i]);
            }
        }

        int writtenCount() {
            int count = 0;
            for (int i = 0; i < MOST_PAGES; i++) {
                count += rows[i].written ? 1 : 0;
            }
            return count;
        }

        /** Takes over AN IMAGE of the chip; false (and of no use then) where the tape is none. */
        boolean takes(int[] tape, int size, Chip chip) {
            clear();
            if (size < 3 || size > tape.length || Image.sumOf(tape, size - 1) != tape[size - 1]) {
                return false;
            }
            day = tape[0] << 8 | tape[1];
            if (day > LAST_DAY) {
                return false;
            }
            int at = 2;
            for (int i = 0; i < chip.pages; i++) {
                if (at >= size - 1 || tape[at] > 1) {
                    return false;
                }
                boolean hasMore = tape[at] == 1;
                at++;
                if (hasMore) {
                    if (at + ROW_HEAD + chip.code.cells > size - 1 || !takesRow(rows[i], tape, at, chip)) {
                        return false;
                    }
                    at += ROW_HEAD + chip.code.cells;
                }
            }
            return at == size - 1;
        }

        private boolean takesRow(Row row, int[] tape, int from, Chip chip) {
            row.written = true;
            row.age = tape[from];
            row.word = 0;
            for (int i = 1; i < ROW_HEAD; i++) {
                row.word = row.word << 8 | tape[from + i];
            }
            for (int cell = 0; cell < chip.code.cells; cell++) {
                row.levels[cell] = tape[from + ROW_HEAD + cell];
                if (row.levels[cell] > TOP_LEVEL) {
                    return false;
                }
            }
            return row.age <= MOST_AGE && chip.code.isCodeWord(row.word);
        }
    }

    /** TO GET a PAGE: READ, and READ again by other thresholds. */
    private static final class Getter {
        final Decoder decoder;
        final Terms terms;
        int reads;
        int threshold;
        int cause;
        int mended;
        long result;
        boolean isTrue;

        Getter(Decoder decoder, Terms terms) {
            this.decoder = decoder;
            this.terms = terms;
        }

        void get(Chip chip, Row row) {
            int wanted = Long.bitCount(row.word);
            int next = chip.mid;
            reads = 0;
            for (int i = 0; i < MOST_READS && next != NONE; i++) {
                threshold = next;
                long bits = row.readBy(threshold, chip.code.cells);
                mend(chip, row, bits);
                reads++;
                next = cause == 0 ? NONE : nextThreshold(chip, Long.bitCount(bits) - wanted);
            }
            isTrue = cause == 0 && result == row.word;
        }

        private void mend(Chip chip, Row row, long bits) {
            if (row.isTrueRead(bits, chip.code.mends)) {
                cause = 0;
                mended = Long.bitCount(bits ^ row.word);
                result = row.word;
                return;
            }
            decoder.decode(chip.code, bits);
            cause = decoder.cause;
            mended = decoder.length;
            result = decoder.result;
        }

        /** NONE where it is not READ again. */
        private int nextThreshold(Chip chip, int surplus) {
            if (surplus == 0 || !terms.triesAgain(chip, reads, Math.abs(surplus), threshold)) {
                return NONE;
            }
            int next = surplus > 0 ? threshold + chip.step : threshold - chip.step;
            return next >= 1 && next <= TOP_LEVEL ? next : NONE;
        }
    }

    /** The last ACTS, as what was so ahead of them, and what was KEPT. */
    private static final class Past {
        final Pages[] before = new Pages[MOST_UNDONE];
        final int[] totals = new int[MOST_UNDONE];
        // As many as are told, and those that undone ACTS may bring back.
        final int[] entries = new int[ENTRY_WIDTH * MOST_HELD];
        int count;
        int last;
        int total;

        Past() {
            for (int i = 0; i < MOST_UNDONE; i++) {
                before[i] = new Pages();
            }
        }

        void clear() {
            count = 0;
            last = 0;
            total = 0;
        }

        /** Ahead of an ACT. */
        void save(Pages now) {
            last = last + 1 < MOST_UNDONE ? last + 1 : 0;
            before[last].copy(now);
            totals[last] = total;
            count = Math.min(count + 1, MOST_UNDONE);
        }

        void restore(Pages now) {
            if (count > 0) {
                now.copy(before[last]);
                total = totals[last];
                last = last > 0 ? last - 1 : MOST_UNDONE - 1;
                count--;
            }
        }

        int told() {
            return Math.min(total, MOST_TOLD);
        }

        void add(int day, int page, int mended) {
            int at = ENTRY_WIDTH * (total % MOST_HELD);
            entries[at] = day;
            entries[at + 1] = page;
            entries[at + 2] = mended;
            total++;
        }

        /** The k-th of those that are told, k and what being so that there is one. */
        int entry(int k, int what) {
            return entries[ENTRY_WIDTH * ((total - told() + k) % MOST_HELD) + what];
        }
    }

    /** Rows MET, the SHIFTS they leave, and TELLING. */
    private static final class Shifts {
        final int[] thresholds = new int[MOST_MET];
        final int[] seen = new int[MOST_MET];
        final int[] fits = new int[SHIFT_COUNT];
        // How many levels are no less than a threshold, from -9 on.
        final int[] atLeast = new int[TOP_THRESHOLD + SHIFT_COUNT];
        final int[] groups = new int[MOST_CELLS + 1];
        int rows;
        int fitCount;
        int telling;
        int leftAtMost;

        void clear() {
            rows = 0;
        }

        boolean takes(int[] tape, int size) {
            if (size < 2 || size > 2 * MOST_MET || size % 2 != 0 || size > tape.length) {
                return false;
            }
            for (int i = 0; i < size; i += 2) {
                if (tape[i] > TOP_THRESHOLD || tape[i + 1] > MOST_CELLS) {
                    return false;
                }
            }
            rows = size / 2;
            for (int i = 0; i < rows; i++) {
                thresholds[i] = tape[2 * i];
                seen[i] = tape[2 * i + 1];
            }
            return true;
        }

        void find(Row row, int cells) {
            for (int i = 0; i < atLeast.length; i++) {
                atLeast[i] = Long.bitCount(row.readBy(i - FARTHEST_SHIFT, cells));
            }
            fitCount = 0;
            for (int shift = -FARTHEST_SHIFT; shift <= FARTHEST_SHIFT; shift++) {
                if (isLeft(shift)) {
                    fits[fitCount] = shift;
                    fitCount++;
                }
            }
        }

        private boolean isLeft(int shift) {
            for (int i = 0; i < rows; i++) {
                if (onesBy(thresholds[i], shift) != seen[i]) {
                    return false;
                }
            }
            return true;
        }

        private int onesBy(int at, int shift) {
            return atLeast[at - shift + FARTHEST_SHIFT];
        }

        /** For what find() left. */
        void findTelling() {
            telling = 0;
            leftAtMost = SHIFT_COUNT + 1;
            for (int at = 0; at <= TOP_THRESHOLD; at++) {
                int most = mostLeft(at);
                if (most < leftAtMost) {
                    leftAtMost = most;
                    telling = at;
                }
            }
        }

        private int mostLeft(int at) {
            Arrays.fill(groups, 0);
            int most = 0;
            for (int i = 0; i < fitCount; i++) {
                int ones = onesBy(at, fits[i]);
                groups[ones]++;
                most = Math.max(most, groups[ones]);
            }
            return most;
        }
    }

    /** AN IMAGE as bytes. */
    private static final class Image {
        final int[] bytes = new int[3 + MOST_PAGES * (1 + ROW_HEAD + MOST_CELLS)];
        int size;

        void build(Pages pages, Chip chip, int count) {
            size = 0;
            put(pages.day >> 8);
            put(pages.day & 255);
            for (int i = 0; i < count; i++) {
                putRow(pages.rows[i], chip.code.cells);
            }
            put(sumOf(bytes, size));
        }

        private void putRow(Row row, int cells) {
            put(row.written ? 1 : 0);
            if (!row.written) {
                return;
            }
            put(row.age);
            for (int shift = 56; shift >= 0; shift -= 8) {
                put((int) (row.word >>> shift & 255L));
            }
            for (int cell = 0; cell < cells; cell++) {
                put(row.levels[cell]);
            }
        }

        private void put(int octet) {
            if (size < bytes.length) {
                bytes[size] = octet;
                size++;
            }
        }

        static int sumOf(int[] octets, int count) {
            int sum = 211;
            for (int i = 0; i < count && i < octets.length; i++) {
                sum = (5 * sum + octets[i]) % 251;
            }
            return sum;
        }
    }
}
