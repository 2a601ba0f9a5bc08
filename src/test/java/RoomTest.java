import com.sun.management.ThreadMXBean;
import java.lang.management.ManagementFactory;

/** The constructor makes all rows, few of them, and no other call makes an object. */
public final class RoomTest {
    private static final int ROUNDS = 20;
    private static final int CALLS = 512;
    // 26 objects and arrays with some 530 fields and elements take about a third of this.
    private static final long MOST_BYTES = 10_000;

    private static final ThreadMXBean threads = (ThreadMXBean) ManagementFactory.getThreadMXBean();

    private RoomTest() {
    }

    public static void main(String[] args) {
        Due due = new Due();
        // What the machine itself makes now and then is not in the least of many rounds.
        long made = Long.MAX_VALUE;
        long called = Long.MAX_VALUE;
        for (int round = 0; round < ROUNDS; round++) {
            long start = threads.getCurrentThreadAllocatedBytes();
            DottedSiblings x = new DottedSiblings(4, 4);
            long between = threads.getCurrentThreadAllocatedBytes();
            callAll(x);
            made = Math.min(made, between - start);
            called = Math.min(called, threads.getCurrentThreadAllocatedBytes() - between);
        }
        due.is("the constructor makes little: " + made + " bytes", true, made <= MOST_BYTES);
        due.is("bytes made by " + CALLS + " calls", 0, called);
        due.end();
    }

    private static void callAll(DottedSiblings x) {
        for (int call = 0; call < CALLS; call += 12) {
            int a = call / 12 % 4;
            int b = call / 48 % 4;
            int key = call / 12 % 3;
            x.put(a, b, key, call);
            x.sync(a, b, key);
            x.get(b, a, key);
            x.read(a, key, 0);
            x.siblings(a, key);
            x.sibling(a, key, 0, 3);
            x.known(a, key, b);
            x.context(a, key, b);
            x.sees(a, key, 0);
            x.same(a, b, key);
            x.weight(a, key);
            x.forget(b, key);
        }
    }
}
