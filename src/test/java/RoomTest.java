import java.lang.management.ManagementFactory;

/** All calls of a run live in one room: an object takes little of it, and its calls nothing. */
public final class RoomTest {
    private static final Checks CHECKS = new Checks();
    private static final com.sun.management.ThreadMXBean THREADS =
        (com.sun.management.ThreadMXBean) ManagementFactory.getThreadMXBean();
    private static final int[] LAKE = ("lake 3;row hsd;row ssh;boat a trust 40 at 0 0;boat b trust 9 at 0 0;boat c trust 9 at 0 0;"
        + "hand m skill 3;hand n skill 1;dread depth*10-bold/3;grows trust+1;").chars().toArray();
    private static final int[] QUESTION = "often not dread<5 or [boats number=1]".chars().toArray();

    public static void main(String[] args) {
        ShyBoats warm = new ShyBoats();
        allCalls(warm);
        long start = taken();
        ShyBoats x = new ShyBoats();
        long made = taken() - start;
        CHECKS.due("an object takes 60,000 bytes at most, " + made, made < 60000, true);
        start = taken();
        for (int n = 0; n < 5; n++) {
            allCalls(x);
        }
        long more = taken() - start;
        CHECKS.due("calls take nothing, " + more, more < 1000, true);
        CHECKS.finish();
    }

    private static long taken() {
        return THREADS.getThreadAllocatedBytes(Thread.currentThread().getId());
    }

    private static void put(ShyBoats x, int[] bytes) {
        for (int at = 0; at < bytes.length; at += 20) {
            x.feed(four(bytes, at), four(bytes, at + 4), four(bytes, at + 8), four(bytes, at + 12), four(bytes, at + 16));
        }
        x.end(bytes.length);
    }

    private static int four(int[] bytes, int at) {
        int four = 0;
        for (int i = at; i < at + 4; i++) {
            four = four << 8 | (i < bytes.length ? bytes[i] : 0);
        }
        return four;
    }

    private static void allCalls(ShyBoats x) {
        put(x, LAKE);
        x.lake();
        put(x, QUESTION);
        x.ask(1);
        x.feed(0x01000101, 0, 0, 0, 0);
        x.end(4);
        x.trials(0);
        x.feed(0x00010200, 0, 0, 0, 0);
        x.end(3);
        x.file(1);
        for (int k = 0; k < 12; k++) {
            x.has(k);
            x.boat(k, 1);
            x.cell(k, 2);
            x.hand(k, 1);
            x.letter(0, k, 1);
            x.kept(k, 1);
            x.route(0, k, -1);
            x.gentle(0, k, 1);
            x.order(k, 1, -1);
            x.lead(k, 1, 0);
        }
        x.runs(0, 0);
        x.match(0);
        x.trusts(0);
        x.next(0);
        x.go(0, 1);
        x.coax(0, 1);
        x.man(0, 1);
        x.hours(3);
        x.drift(9);
        x.undo();
        x.image();
        x.on();
        x.status(0);
        x.fault(0);
    }
}
