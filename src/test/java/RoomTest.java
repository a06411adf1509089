import com.sun.management.ThreadMXBean;
import java.lang.management.ManagementFactory;

/** All calls of a run share one room of memory, so a new object is small and calls make nothing. */
public final class RoomTest {
    private static final int CALLS = 512;
    private static final long BYTES_OF_AN_OBJECT = 64 * 1024;
    private static final long BYTES_OF_ALL_CALLS = 64 * 1024;
    private static final Checks checks = new Checks("RoomTest");

    public static void main(String[] args) {
        ThreadMXBean threads = (ThreadMXBean) ManagementFactory.getThreadMXBean();
        long thread = Thread.currentThread().getId();
        fillAndUse(new DatatypeTerms());
        long start = threads.getThreadAllocatedBytes(thread);
        DatatypeTerms x = new DatatypeTerms();
        long made = threads.getThreadAllocatedBytes(thread);
        fillAndUse(x);
        long used = threads.getThreadAllocatedBytes(thread);
        checks.holds("a new object takes " + (made - start) + " bytes", made - start <= BYTES_OF_AN_OBJECT);
        checks.holds("its calls take " + (used - made) + " bytes", used - made <= BYTES_OF_ALL_CALLS);
        checks.end();
    }

    private static void fillAndUse(DatatypeTerms x) {
        x.addType();
        x.addConstructor(0, 0, 0, 0, 0);
        x.addConstructor(0, 0, 0, 0, 0);
        x.addConstructor(0, 1, 0, 0, 0);
        x.addConstructor(0, 2, 0, 0, 0);
        int v = x.variable(0);
        int w = x.variable(0);
        x.addRow(x.term(3, v, v, 0));
        x.addRow(x.term(3, v, x.term(2, w, 0, 0), 0));
        x.addRow(v);
        for (int call = 0; call < CALLS; call += 16) {
            int value = x.value(0, 5, call % 16);
            x.rank(value);
            x.size(value);
            x.firstMatch(value);
            x.push();
            x.unify(v, value);
            x.equal(v, w);
            x.uncovered(8);
            x.coveredBy(0, 8);
            x.pop();
            x.unify(v, w);
            x.unify(v, x.term(2, w, 0, 0));
            x.unbindAll();
            x.firstUncovered(8);
            x.cardinality(0);
            x.smallestSize(0);
        }
    }
}
