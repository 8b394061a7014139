import java.lang.management.ManagementFactory;

/** Objects are made in the constructor alone: many calls take no more room than few. */
public final class RoomTest {
    private static final int CALLS = 512;
    /** Far less than one row of an object for each call; what the machine needs for itself fits in. */
    private static final long ALLOWED = CALLS * 8L;
    /** 5 copies of the state with some 300 numbers each fit in. */
    private static final long ALLOWED_FOR_NEW = 12_000L;

    public static void main(String[] args) {
        Checks checks = new Checks();
        for (int warm = 0; warm < 3; warm++) {
            use(new RangeScheduler());
        }
        long before = allocated();
        RangeScheduler x = new RangeScheduler();
        long made = allocated();
        use(x);
        long after = allocated();
        checks.isTrue("a new object takes " + (made - before) + " bytes", made - before <= ALLOWED_FOR_NEW);
        checks.isTrue(CALLS + " calls take " + (after - made) + " bytes", after - made <= ALLOWED);
        checks.end();
    }

    private static long allocated() {
        com.sun.management.ThreadMXBean bean = (com.sun.management.ThreadMXBean) ManagementFactory.getThreadMXBean();
        return bean.getThreadAllocatedBytes(Thread.currentThread().getId());
    }

    private static void use(RangeScheduler x) {
        for (int i = 0; i < CALLS; i++) {
            switch (i % 16) {
                case 0: x.addNode(i % 4, 16); break;
                case 1: x.put(i * 19 % 10000, 1 + i % 99); break;
                case 2: x.access(i * 31 % 10000); break;
                case 3: x.tick(); break;
                case 4: x.settle(50); break;
                case 5: x.digest(); break;
                case 6: x.splitAt(i * 17 % 10000); break;
                case 7: x.setNode(i / 16 % 8, i / 128 % 2); break;
                case 8: x.undo(); break;
                case 9: x.remove(i * 19 % 10000); break;
                case 10: x.setSizes(i % 50, 50 + i); break;
                case 11: x.setLoads(i % 4, 4 + i % 20); break;
                case 12: x.setSpeed(1 + i % 99); break;
                case 13: x.setReplication(1 + i % 5); break;
                case 14: x.splitKey(0, i / 16 % 2); break;
                default: x.errorCount(i); break;
            }
        }
    }
}
