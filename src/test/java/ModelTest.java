import java.util.Random;

/**
 * Long runs of calls on RangeScheduler and on Model: every answer and the digest after every
 * call must be the same. The seeds are fixed, so a run can be repeated.
 */
public final class ModelTest {
    private static final int RUNS = 600;
    private static final int CALLS = 512;
    private static final Checks checks = new Checks();
    private static final long[] seen = new long[9];

    private final Random random;
    private final RangeScheduler x = new RangeScheduler();
    private final Model m = new Model();
    /** Runs differ in how many keys they use, how wrong their arguments are and what they mostly do. */
    private final int keyStep;
    private final int wrongness;
    private final int taste;

    private ModelTest(int seed) {
        random = new Random(seed);
        keyStep = new int[] {1, 7, 100, 150, 400, 1500}[random.nextInt(6)];
        wrongness = random.nextInt(4) == 0 ? 10 : 200;
        taste = random.nextInt(6);
    }

    public static void main(String[] args) {
        for (int seed = 0; seed < RUNS; seed++) {
            new ModelTest(seed).run(seed);
        }
        for (int action = 1; action <= 8; action++) {
            checks.isTrue("action " + action + " is performed often: " + seen[action], seen[action] >= 100);
        }
        checks.end();
    }

    private void run(int seed) {
        prepare();
        // Half of the calls that an object is good for: each call has its digest.
        for (int i = 0; i < CALLS / 2 - 20; i++) {
            String call = step();
            long got = x.digest();
            long want = m.digest();
            checks.due("run " + seed + ", call " + i + ": digest() after " + call, got, want);
            if (got != want) {
                return;
            }
        }
        for (int action = 1; action <= 8; action++) {
            seen[action] += x.performed(action);
        }
    }

    private void prepare() {
        int nodes = random.nextInt(9);
        for (int i = 0; i < nodes; i++) {
            int zone = random.nextInt(4);
            int capacity = random.nextBoolean() ? 16 : 1 + random.nextInt(16);
            same("addNode", x.addNode(zone, capacity), m.addNode(zone, capacity));
        }
    }

    private String same(String call, long got, long want) {
        checks.due(call, got, want);
        return call;
    }

    private int in(int least, int greatest) {
        if (random.nextInt(wrongness) == 0) {
            int[] wrong = {least - 1, greatest + 1, Integer.MIN_VALUE, Integer.MAX_VALUE, -random.nextInt(1000)};
            return wrong[random.nextInt(wrong.length)];
        }
        return least + random.nextInt(Math.max(1, greatest - least + 1));
    }

    private int key() {
        if (random.nextInt(wrongness) == 0) {
            return in(0, 9999);
        }
        return random.nextInt(25) == 0 ? (random.nextBoolean() ? 0 : 9999)
                : random.nextInt((9999 + keyStep) / keyStep) * keyStep % 10000;
    }

    private int range() {
        return in(0, m.rangeCount() - 1);
    }

    private int node() {
        return in(0, 7);
    }

    private String step() {
        int kind = random.nextInt(100);
        switch (taste) {
            case 0: return kind < 60 ? data() : kind < 80 ? schedule() : kind < 90 ? settings() : question();
            case 1: return kind < 30 ? failure() : kind < 60 ? schedule() : kind < 80 ? data() : settings();
            case 2: return kind < 50 ? schedule() : kind < 70 ? data() : kind < 80 ? failure() : question();
            case 3: return kind < 25 ? back() : kind < 60 ? data() : kind < 80 ? schedule() : failure();
            case 4: return kind < 80 ? splitting() : kind < 90 ? schedule() : failure();
            default: return kind < 20 ? data() : kind < 40 ? schedule() : kind < 55 ? settings()
                    : kind < 70 ? failure() : kind < 80 ? back() : question();
        }
    }

    private String data() {
        int key = key();
        switch (random.nextInt(8)) {
            case 0: case 1: case 2: {
                int size = in(1, 99);
                return same("put(" + key + ", " + size + ")", x.put(key, size), m.put(key, size));
            }
            case 3: return same("remove(" + key + ")", x.remove(key), m.remove(key));
            case 4: return splitting();
            default: return same("access(" + key + ")", x.access(key), m.access(key));
        }
    }

    private String splitting() {
        int key = key();
        return same("splitAt(" + key + ")", x.splitAt(key), m.splitAt(key));
    }

    private String schedule() {
        if (random.nextInt(3) != 0) {
            return same("tick()", x.tick(), m.tick());
        }
        int ticks = random.nextInt(4) == 0 ? in(1, 200) : in(1, 12);
        return same("settle(" + ticks + ")", x.settle(ticks), m.settle(ticks));
    }

    private String failure() {
        if (random.nextInt(8) == 0) {
            int zone = in(0, 3);
            int capacity = in(1, 16);
            return same("addNode(" + zone + ", " + capacity + ")", x.addNode(zone, capacity), m.addNode(zone, capacity));
        }
        int node = node();
        int up = random.nextInt(3) == 0 ? in(0, 1) : 1;
        return same("setNode(" + node + ", " + up + ")", x.setNode(node, up), m.setNode(node, up));
    }

    private String settings() {
        switch (random.nextInt(4)) {
            case 0: {
                int replicas = in(1, 5);
                return same("setReplication(" + replicas + ")", x.setReplication(replicas), m.setReplication(replicas));
            }
            case 1: {
                int maximum = in(1, random.nextInt(5) == 0 ? 9999 : 250);
                int minimum = in(0, random.nextBoolean() ? maximum : 40);
                return same("setSizes(" + minimum + ", " + maximum + ")",
                        x.setSizes(minimum, maximum), m.setSizes(minimum, maximum));
            }
            case 2: {
                int maximum = in(1, 32);
                int minimum = in(0, random.nextBoolean() ? maximum : 4);
                return same("setLoads(" + minimum + ", " + maximum + ")",
                        x.setLoads(minimum, maximum), m.setLoads(minimum, maximum));
            }
            default: {
                int speed = in(1, 99);
                return same("setSpeed(" + speed + ")", x.setSpeed(speed), m.setSpeed(speed));
            }
        }
    }

    private String back() {
        return same("undo()", x.undo(), m.undo());
    }

    private String question() {
        int range = range();
        int key = key();
        switch (random.nextInt(17)) {
            case 0: return same("sizeOf(" + key + ")", x.sizeOf(key), m.sizeOf(key));
            case 1: return same("time()", x.time(), m.time());
            case 2: return same("rangeCount()", x.rangeCount(), m.rangeCount());
            case 3: return same("start(" + range + ")", x.start(range), m.start(range));
            case 4: return same("size(" + range + ")", x.size(range), m.size(range));
            case 5: return same("load(" + range + ")", x.load(range), m.load(range));
            case 6: return same("rangeOf(" + key + ")", x.rangeOf(key), m.rangeOf(key));
            case 7: return same("voters(" + range + ")", x.voters(range), m.voters(range));
            case 8: return same("leader(" + range + ")", x.leader(range), m.leader(range));
            case 9: return same("learner(" + range + ")", x.learner(range), m.learner(range));
            case 10: return same("isAvailable(" + range + ")", x.isAvailable(range), m.isAvailable(range));
            case 11: case 12: {
                int kind = in(0, 1);
                return same("splitKey(" + range + ", " + kind + ")", x.splitKey(range, kind), m.splitKey(range, kind));
            }
            case 13: {
                int node = node();
                return same("replicas(" + node + ")", x.replicas(node), m.replicas(node));
            }
            case 14: {
                int node = node();
                return same("leaders(" + node + ")", x.leaders(node), m.leaders(node));
            }
            case 15: {
                int action = in(1, 8);
                return same("performed(" + action + ")", x.performed(action), m.performed(action));
            }
            default: {
                int kind = in(0, 2);
                return same("errorCount(" + kind + ")", x.errorCount(kind), m.errorCount(kind));
            }
        }
    }
}
