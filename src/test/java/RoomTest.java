import com.sun.management.ThreadMXBean;
import java.lang.management.ManagementFactory;

/** The dearest grammars, asked through all of an object's calls: no new room, right to the end. */
final class RoomTest {
    private static final int NONE = AttributeKinds.NONE;
    private static final int CALLS = 512;

    public static void main(String[] args) {
        rounds(new AttributeKinds());
        AttributeKinds x = new AttributeKinds();
        ThreadMXBean threads = (ThreadMXBean) ManagementFactory.getThreadMXBean();
        long self = Thread.currentThread().getId();
        long before = threads.getThreadAllocatedBytes(self);
        rounds(x);
        long made = threads.getThreadAllocatedBytes(self) - before;
        if (made > 20_000) {
            Check.fail("a run of calls made " + made + " bytes");
        }
        Check.end();
    }

    /** Symbol 1's graphs are all sets of three steps; each tree of three has those of its parts. */
    private static void rounds(AttributeKinds x) {
        x.symbol(0, 0);
        x.symbol(6, 7);
        int calls = 2;
        for (int i = 0; i < 4; i++) {
            x.production(1, NONE, NONE, NONE);
            calls++;
            if (i > 0) {
                x.depend(i, 2 + i, i - 1);
                calls++;
            }
        }
        for (int i = 4; i < 16; i++) {
            x.production(1, 1, 1, 1);
            calls++;
            for (int part = 1; part <= 3; part++) {
                for (int a = 0; a < 3; a++) {
                    x.depend(i, 3 + a, 8 * part + 3 + a);
                    x.depend(i, 8 * part + a, a);
                    calls += 2;
                    if (calls < CALLS - 20 && a == part - 1) {
                        x.circular();
                        x.strong();
                        x.passes(true);
                        calls += 3;
                    }
                }
            }
        }
        for (; calls < CALLS - 7; calls++) {
            Check.same("graphs(0)", x.graphs(0), 0);
        }
        // The last seven calls that the document promises anything about.
        Check.same("graphs(1)", x.graphs(1), 8);
        Check.same("circular()", x.circular(), false);
        Check.same("strong()", x.strong(), true);
        Check.same("doubly()", x.doubly(), true);
        Check.same("relation(1, 5, false)", x.relation(1, 5, false), 4);
        Check.same("passes(false)", x.passes(false), 1);
        Check.same("passes(true)", x.passes(true), 1);
        Check.same("calls of one object", calls + 7, CALLS);
    }
}
