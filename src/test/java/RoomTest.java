import java.lang.management.ManagementFactory;

/** All calls of a run live in one room: an object is small, and no call makes anything. */
public final class RoomTest {
    private static final String CHIP = "field 6 poly 67 mends 2 short 0;page a;page b;page c;page d;page e;page f;noise 50;"
            + "drifts if(bit=1,0-cell%3,age%2);tries tried<20 and gap<30;";
    private static final int ROUNDS = 20;

    public static void main(String[] args) {
        Check check = new Check();
        com.sun.management.ThreadMXBean bean = (com.sun.management.ThreadMXBean) ManagementFactory.getThreadMXBean();
        long thread = Thread.currentThread().getId();
        int[] text = CHIP.chars().toArray();
        FlashPages x = new FlashPages();
        long sum = use(x, text);
        long before = bean.getThreadAllocatedBytes(thread);
        FlashPages y = new FlashPages();
        long made = bean.getThreadAllocatedBytes(thread) - before;
        check.due("bytes of an object, " + made, made < 120000, true);
        before = bean.getThreadAllocatedBytes(thread);
        for (int i = 0; i < ROUNDS; i++) {
            sum += use(x, text) + use(y, text);
        }
        long spent = bean.getThreadAllocatedBytes(thread) - before;
        // The test's own rows, five numbers for each feed().
        long own = 2L * ROUNDS * 600;
        check.due("bytes made by calls, " + spent, spent < own, true);
        check.due("something was answered", sum != 0, true);
        check.finish();
    }

    private static void put(FlashPages x, int[] bytes) {
        for (int i = 0; i < bytes.length; i += 20) {
            x.feed(number(bytes, i), number(bytes, i + 4), number(bytes, i + 8), number(bytes, i + 12), number(bytes, i + 16));
        }
        x.end(bytes.length);
    }

    private static int number(int[] bytes, int from) {
        int number = 0;
        for (int i = 0; i < 4; i++) {
            number = number << 8 | (from + i < bytes.length ? bytes[from + i] : 32);
        }
        return number;
    }

    private static long use(FlashPages x, int[] text) {
        put(x, text);
        long sum = x.chip();
        for (int page = 0; page < 6; page++) {
            sum += x.write(page, 5 * page, 77 * page) ? 1 : 0;
            sum += x.flip(page, 9) ? 1 : 0;
        }
        sum += x.days(2) + x.chance(2);
        for (int page = 0; page < 6; page++) {
            sum += x.got(page, 5) + x.span(page, 0) + x.lost(page) + x.odds(page) + x.level(page, 3, 9) + x.shifts(page, 3);
            sum += x.tells(page, 0) + x.wrong(page, 50, -1) + x.locator(page, 45, 0) + x.syndrome(page, 50, 1) + x.refresh(page);
        }
        sum += x.patterns(3, 1) + x.weight(3) + x.word(1, 2, 3) + x.field(5, 2) + x.generator(3) + x.kept(0, 0) + x.image();
        sum += x.octet(3) + (x.erase(2) ? 1 : 0) + (x.undo() ? 1 : 0) + x.has(7) + x.fault(0) + x.status(0) + x.letter(0, 0);
        x.meet();
        x.on();
        return sum;
    }
}
