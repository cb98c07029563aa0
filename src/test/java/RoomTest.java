import java.lang.management.ManagementFactory;

/** Calls make no objects: all rows are made with the object. */
final class RoomTest {
    private static final int OBJECTS = 200;
    /** All runs share one room of 7.3 million fields and elements, here counted as ints. */
    private static final long MOST_BYTES_OF_ONE = 7_300_000L * 4 / OBJECTS;

    /** Far less than one object a call would take. */
    private static final long MOST_BYTES_OF_CALLS = 64 * 1024;

    private RoomTest() {
    }

    static void run() {
        com.sun.management.ThreadMXBean threads =
            (com.sun.management.ThreadMXBean) ManagementFactory.getThreadMXBean();
        work(new PlanClauses());
        PlanClauses[] objects = new PlanClauses[OBJECTS];
        long before = threads.getCurrentThreadAllocatedBytes();
        for (int i = 0; i < OBJECTS; i++) {
            objects[i] = new PlanClauses();
        }
        long made = threads.getCurrentThreadAllocatedBytes();
        for (int i = 0; i < OBJECTS; i++) {
            work(objects[i]);
        }
        long worked = threads.getCurrentThreadAllocatedBytes();
        Due.holds("an object is small: " + (made - before) / OBJECTS, (made - before) / OBJECTS < MOST_BYTES_OF_ONE);
        Due.holds("calls make nothing: " + (worked - made), worked - made < MOST_BYTES_OF_CALLS);
    }

    private static void work(PlanClauses x) {
        x.variables(12);
        for (int i = 0; i < 30; i++) {
            x.literal(1 + i * 5 % 12);
            x.literal(-1 - i * 7 % 11);
            x.literal(1 + i * i % 12);
            x.clause();
            x.sat(-3);
            x.models();
            x.model(i, 3);
            x.forced(5);
            x.culprit();
        }
        x.facts(6);
        for (int a = 0; a < 5; a++) {
            x.action(a, 9 * a % 64, 17);
            x.set(1, 8 + a);
            x.step(5, 3);
            x.state(5, 5);
            x.plans(4);
            x.shortest();
            x.code(a, 2);
            x.coded(5, 20, 1);
        }
    }
}
