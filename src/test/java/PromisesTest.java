/** For each promise of the document: ordinary inputs, the edges that it names, and wrong inputs. */
public final class PromisesTest {
    private static final int NONE = -1;
    private static final int INVALID = -2;
    private static final int REJECTED = -3;
    private static final int FULL = -4;
    private static final int[] FAR = {Integer.MIN_VALUE, -1, Integer.MAX_VALUE};
    private static final Checks checks = new Checks();

    public static void main(String[] args) {
        newObject();
        addNode();
        setNode();
        setReplication();
        setSizes();
        setLoads();
        setSpeed();
        put();
        remove();
        access();
        splitAt();
        sizeOf();
        tick();
        settle();
        performed();
        time();
        rangeCount();
        start();
        size();
        load();
        rangeOf();
        voters();
        leader();
        learner();
        isAvailable();
        splitKeyBySize();
        splitKeyByLoad();
        replicas();
        leaders();
        undo();
        undoneByEveryUndoable();
        undoOfRanges();
        undoOfLearners();
        undoOfSamples();
        errorCount();
        digest();
        everythingFull();
        checks.end();
    }

    private static void due(String call, long got, long want) {
        checks.due(call, got, want);
    }

    /** A range with voters on so many nodes, each in the zone with its number modulo 4. */
    private static RangeScheduler cluster(int nodes) {
        RangeScheduler x = new RangeScheduler();
        for (int node = 0; node < nodes; node++) {
            x.addNode(node % 4, 16);
        }
        x.setReplication(Math.min(nodes, 5));
        x.settle(200);
        return x;
    }

    private static void newObject() {
        RangeScheduler x = new RangeScheduler();
        due("1: rangeCount()", x.rangeCount(), 1);
        due("1: start(0)", x.start(0), 0);
        due("1: voters(0)", x.voters(0), 0);
        due("1: leader(0)", x.leader(0), NONE);
        due("1: learner(0)", x.learner(0), NONE);
        due("1: isAvailable(0)", x.isAvailable(0), 0);
        due("1: time()", x.time(), 0);
        due("1: replicas(0)", x.replicas(0), INVALID);
        due("1: undo()", x.undo(), REJECTED);
        due("1: setReplication(4)", x.setReplication(4), 3);
        due("1: setSizes(1, 50)", x.setSizes(1, 50), 100);
        due("1: setLoads(1, 5)", x.setLoads(1, 5), 16);
        due("1: setSpeed(5)", x.setSpeed(5), 10);
        long h = 12532;
        int[] values = {0, 0, 0, 0, 0, 3, 20, 100, 2, 16, 10, 0, 1, 0, 0, 0, 0, -1, -1, -1, -1, -1, 0,
            0, 0, 0, 0, 0, 0, 0, 0};
        for (int value : values) {
            h = 31 * h + value;
        }
        due("1: digest()", new RangeScheduler().digest(), h);
    }

    private static void addNode() {
        RangeScheduler x = new RangeScheduler();
        for (int wrong : FAR) {
            due("2: addNode(wrong, 1)", x.addNode(wrong, 1), INVALID);
            due("2: addNode(0, wrong)", x.addNode(0, wrong), INVALID);
        }
        due("2: addNode(4, 1)", x.addNode(4, 1), INVALID);
        due("2: addNode(0, 0)", x.addNode(0, 0), INVALID);
        due("2: addNode(0, 17)", x.addNode(0, 17), INVALID);
        due("2: addNode(3, 16)", x.addNode(3, 16), 0);
        for (int node = 1; node < 8; node++) {
            due("2: addNode(0, 1)", x.addNode(0, 1), node);
        }
        due("2: addNode(0, 1), the ninth", x.addNode(0, 1), FULL);
        due("2: addNode(4, 1), the ninth", x.addNode(4, 1), INVALID);
        due("2: setNode(7, 1), as it is up", x.setNode(7, 1), REJECTED);
        due("2: errorCount(2)", x.errorCount(2), 1);
    }

    private static void setNode() {
        RangeScheduler x = cluster(3);
        due("3: setNode(3, 0)", x.setNode(3, 0), INVALID);
        due("3: setNode(-1, 0)", x.setNode(-1, 0), INVALID);
        due("3: setNode(0, 2)", x.setNode(0, 2), INVALID);
        due("3: setNode(0, -1)", x.setNode(0, -1), INVALID);
        due("3: setNode(0, 1)", x.setNode(0, 1), REJECTED);
        due("3: splitAt(5000)", x.splitAt(5000), 1);
        due("3: setNode(0, 0)", x.setNode(0, 0), 2);
        due("3: leader(0)", x.leader(0), 1);
        due("3: leader(1), as node 1 leads range 0", x.leader(1), 2);
        due("3: setNode(0, 0)", x.setNode(0, 0), REJECTED);
        due("3: setNode(2, 0)", x.setNode(2, 0), 0);
        due("3: leader(0), whose leader is up", x.leader(0), NONE);
        due("3: leader(1)", x.leader(1), NONE);
        due("3: setNode(2, 1)", x.setNode(2, 1), 2);
        due("3: leader(0)", x.leader(0), 1);
        due("3: leader(1)", x.leader(1), 2);
        RangeScheduler y = new RangeScheduler();
        y.addNode(0, 16);
        y.addNode(1, 16);
        y.put(5, 50);
        y.tick();
        y.tick();
        due("3: learner(0)", y.learner(0), 601);
        due("3: setNode(1, 0), the learner's", y.setNode(1, 0), 1);
        due("3: learner(0)", y.learner(0), NONE);
        due("3: leader(0)", y.leader(0), 0);
    }

    private static void setReplication() {
        RangeScheduler x = new RangeScheduler();
        for (int wrong : new int[] {Integer.MIN_VALUE, -1, 0, 6, Integer.MAX_VALUE}) {
            due("4: setReplication(wrong)", x.setReplication(wrong), INVALID);
        }
        due("4: setReplication(1)", x.setReplication(1), 3);
        due("4: setReplication(5)", x.setReplication(5), 1);
        due("4: setReplication(5)", x.setReplication(5), 5);
        due("4: undo()", x.undo(), 2);
        for (int node = 0; node < 6; node++) {
            x.addNode(0, 16);
        }
        x.settle(200);
        due("4: voters(0)", x.voters(0), 31);
    }

    private static void setSizes() {
        RangeScheduler x = new RangeScheduler();
        int[][] wrong = {{-1, 5}, {6, 5}, {0, 0}, {0, -1}, {0, 10000}, {10000, 10000}, {1, Integer.MIN_VALUE},
            {Integer.MIN_VALUE, 5}, {Integer.MAX_VALUE, Integer.MAX_VALUE}};
        for (int[] pair : wrong) {
            due("5: setSizes(" + pair[0] + ", " + pair[1] + ")", x.setSizes(pair[0], pair[1]), INVALID);
        }
        due("5: setSizes(0, 1)", x.setSizes(0, 1), 100);
        due("5: setSizes(9999, 9999)", x.setSizes(9999, 9999), 1);
        due("5: setSizes(5, 5)", x.setSizes(5, 5), 9999);
        due("5: errorCount(0)", x.errorCount(0), wrong.length);
    }

    private static void setLoads() {
        RangeScheduler x = new RangeScheduler();
        int[][] wrong = {{-1, 5}, {6, 5}, {0, 0}, {0, -1}, {0, 33}, {33, 33}, {1, Integer.MIN_VALUE},
            {Integer.MIN_VALUE, 5}, {Integer.MAX_VALUE, Integer.MAX_VALUE}};
        for (int[] pair : wrong) {
            due("6: setLoads(" + pair[0] + ", " + pair[1] + ")", x.setLoads(pair[0], pair[1]), INVALID);
        }
        due("6: setLoads(0, 1)", x.setLoads(0, 1), 16);
        due("6: setLoads(32, 32)", x.setLoads(32, 32), 1);
        due("6: setLoads(5, 5)", x.setLoads(5, 5), 32);
        due("6: errorCount(0)", x.errorCount(0), wrong.length);
    }

    private static void setSpeed() {
        RangeScheduler x = new RangeScheduler();
        for (int wrong : new int[] {Integer.MIN_VALUE, -1, 0, 100, Integer.MAX_VALUE}) {
            due("7: setSpeed(wrong)", x.setSpeed(wrong), INVALID);
        }
        due("7: setSpeed(1)", x.setSpeed(1), 10);
        x.addNode(0, 16);
        x.addNode(1, 16);
        x.put(5, 50);
        x.tick();
        x.tick();
        due("7: learner(0)", x.learner(0), 5101);
        due("7: setSpeed(99)", x.setSpeed(99), 1);
        due("7: learner(0), which exists already", x.learner(0), 5101);
    }

    private static void put() {
        RangeScheduler x = new RangeScheduler();
        for (int wrong : FAR) {
            due("8: put(wrong, 1)", x.put(wrong, 1), INVALID);
            due("8: put(1, wrong)", x.put(1, wrong), INVALID);
        }
        due("8: put(10000, 1)", x.put(10000, 1), INVALID);
        due("8: put(1, 0)", x.put(1, 0), INVALID);
        due("8: put(1, 100)", x.put(1, 100), INVALID);
        for (int i = 0; i < 63; i++) {
            due("8: put(key, 99)", x.put(9999 - 157 * i, 99), 0);
        }
        due("8: put(0, 1)", x.put(0, 1), 0);
        due("8: put(1, 1), the 65th", x.put(1, 1), FULL);
        due("8: put(1, 100), the 65th", x.put(1, 100), INVALID);
        due("8: put(9999, 7)", x.put(9999, 7), 99);
        due("8: put(9999, 7)", x.put(9999, 7), 7);
        due("8: size(0)", x.size(0), 62 * 99 + 8);
        due("8: remove(9999)", x.remove(9999), 7);
        due("8: put(1, 2)", x.put(1, 2), 0);
        due("8: size(0)", x.size(0), 62 * 99 + 3);
        due("8: errorCount(2)", x.errorCount(2), 1);
    }

    private static void remove() {
        RangeScheduler x = new RangeScheduler();
        for (int wrong : FAR) {
            due("9: remove(wrong)", x.remove(wrong), INVALID);
        }
        due("9: remove(10000)", x.remove(10000), INVALID);
        due("9: remove(9999)", x.remove(9999), REJECTED);
        x.put(10, 1);
        x.put(20, 2);
        x.put(30, 3);
        due("9: remove(20)", x.remove(20), 2);
        due("9: remove(20)", x.remove(20), REJECTED);
        due("9: sizeOf(10)", x.sizeOf(10), 1);
        due("9: sizeOf(30)", x.sizeOf(30), 3);
        due("9: size(0)", x.size(0), 4);
        due("9: remove(30)", x.remove(30), 3);
        due("9: remove(10)", x.remove(10), 1);
        due("9: size(0)", x.size(0), 0);
    }

    private static void access() {
        RangeScheduler x = new RangeScheduler();
        for (int wrong : FAR) {
            due("10: access(wrong)", x.access(wrong), INVALID);
        }
        due("10: access(10000)", x.access(10000), INVALID);
        due("10: load(0)", x.load(0), 0);
        due("10: access(9999), without voters", x.access(9999), NONE);
        due("10: load(0)", x.load(0), 1);
        x.addNode(0, 16);
        x.addNode(0, 16);
        x.setReplication(1);
        x.splitAt(5000);
        x.tick();
        x.tick();
        due("10: access(4999)", x.access(4999), 0);
        due("10: access(5000)", x.access(5000), 1);
        for (int i = 0; i < 31; i++) {
            x.access(1);
        }
        due("10: load(0), when 4999 and 9999 are dropped", x.load(0), 31);
        due("10: load(1)", x.load(1), 1);
        x.access(1);
        due("10: load(0), when 5000 is dropped", x.load(0), 32);
        due("10: load(1)", x.load(1), 0);
        RangeScheduler y = new RangeScheduler();
        y.splitAt(5000);
        for (int i = 0; i < 100; i++) {
            y.access(i % 3 == 0 ? 5000 + i : i);
        }
        due("10: load(1), of the samples 68 to 99", y.load(1), 11);
        due("10: load(0)", y.load(0), 21);
    }

    private static void splitAt() {
        RangeScheduler x = new RangeScheduler();
        for (int wrong : FAR) {
            due("11: splitAt(wrong)", x.splitAt(wrong), INVALID);
        }
        due("11: splitAt(10000)", x.splitAt(10000), INVALID);
        due("11: splitAt(0)", x.splitAt(0), REJECTED);
        due("11: splitAt(9999)", x.splitAt(9999), 1);
        due("11: splitAt(1)", x.splitAt(1), 1);
        due("11: start(2)", x.start(2), 9999);
        for (int i = 0; i < 13; i++) {
            due("11: splitAt(key)", x.splitAt(100 * (i + 1)), i + 2);
        }
        due("11: rangeCount()", x.rangeCount(), 16);
        due("11: splitAt(5), with 16 ranges", x.splitAt(5), FULL);
        due("11: splitAt(100), with 16 ranges", x.splitAt(100), REJECTED);
        due("11: splitAt(-1), with 16 ranges", x.splitAt(-1), INVALID);
        due("11: errorCount(1)", x.errorCount(1), 2);
        RangeScheduler y = new RangeScheduler();
        y.addNode(0, 16);
        y.addNode(1, 16);
        y.tick();
        y.tick();
        due("11: splitAt(7), with a learner", y.splitAt(7), REJECTED);
        y.tick();
        due("11: splitAt(7)", y.splitAt(7), 1);
        due("11: voters(1)", y.voters(1), 3);
        due("11: leader(1)", y.leader(1), 0);
        due("11: learner(1)", y.learner(1), NONE);
    }

    private static void sizeOf() {
        RangeScheduler x = new RangeScheduler();
        for (int wrong : FAR) {
            due("12: sizeOf(wrong)", x.sizeOf(wrong), INVALID);
        }
        due("12: sizeOf(10000)", x.sizeOf(10000), INVALID);
        due("12: sizeOf(0)", x.sizeOf(0), 0);
        x.put(0, 3);
        x.put(9999, 99);
        due("12: sizeOf(0)", x.sizeOf(0), 3);
        due("12: sizeOf(9999)", x.sizeOf(9999), 99);
        due("12: sizeOf(1)", x.sizeOf(1), 0);
        due("12: errorCount(0)", x.errorCount(0), 4);
    }

    private static void tick() {
        RangeScheduler x = new RangeScheduler();
        due("13: tick()", x.tick(), 0);
        x.addNode(0, 16);
        x.setReplication(1);
        x.splitAt(10);
        x.splitAt(20);
        due("13: tick()", x.tick(), 100);
        due("13: tick()", x.tick(), 101);
        due("13: tick()", x.tick(), 102);
        due("13: tick(), which merges", x.tick(), 600);
        due("13: tick()", x.tick(), 600);
        due("13: tick()", x.tick(), 0);
    }

    private static void settle() {
        RangeScheduler x = new RangeScheduler();
        for (int wrong : new int[] {Integer.MIN_VALUE, -1, 0, 201, Integer.MAX_VALUE}) {
            due("14: settle(wrong)", x.settle(wrong), INVALID);
        }
        due("14: settle(200)", x.settle(200), 1);
        due("14: undo()", x.undo(), 0);
        due("14: time()", x.time(), 0);
        x.addNode(0, 16);
        x.addNode(1, 16);
        x.setSpeed(1);
        x.put(0, 99);
        due("14: settle(1)", x.settle(1), 1);
        due("14: voters(0)", x.voters(0), 1);
        due("14: settle(50), which ends with a learner", x.settle(50), 50);
        due("14: learner(0)", x.learner(0), 100 * (100 - 49) + 1);
        due("14: settle(200)", x.settle(200), 51);
        due("14: voters(0)", x.voters(0), 3);
        due("14: time()", x.time(), 102);
        due("14: undo()", x.undo(), 3);
        due("14: time()", x.time(), 51);
    }

    private static void performed() {
        RangeScheduler x = cluster(3);
        for (int wrong : new int[] {Integer.MIN_VALUE, -1, 0, 9, Integer.MAX_VALUE}) {
            due("15: performed(wrong)", x.performed(wrong), INVALID);
        }
        due("15: performed(1)", x.performed(1), 1);
        due("15: performed(2)", x.performed(2), 2);
        for (int action = 3; action <= 8; action++) {
            due("15: performed(action)", x.performed(action), 0);
        }
        x.undo();
        due("15: performed(2)", x.performed(2), 0);
    }

    private static void time() {
        RangeScheduler x = new RangeScheduler();
        due("16: time()", x.time(), 0);
        x.tick();
        x.tick();
        due("16: time()", x.time(), 2);
        x.settle(9);
        due("16: time()", x.time(), 3);
        x.undo();
        due("16: time()", x.time(), 2);
    }

    private static void rangeCount() {
        RangeScheduler x = new RangeScheduler();
        due("17: rangeCount()", x.rangeCount(), 1);
        for (int i = 1; i < 20; i++) {
            x.splitAt(i);
        }
        due("17: rangeCount()", x.rangeCount(), 16);
        due("17: rangeCount(), after a merge", merged().rangeCount(), 2);
    }

    /** Ranges from 0, 10 and 20, of which the first two have been merged. */
    private static RangeScheduler merged() {
        RangeScheduler x = cluster(1);
        x.splitAt(10);
        x.splitAt(20);
        x.put(10, 4);
        x.put(25, 7);
        x.access(12);
        x.tick();
        return x;
    }

    private static void start() {
        RangeScheduler x = merged();
        due("18: start(0)", x.start(0), 0);
        due("18: start(1)", x.start(1), 20);
        due("18: start(2)", x.start(2), INVALID);
        for (int wrong : FAR) {
            due("18: start(wrong)", x.start(wrong), INVALID);
        }
    }

    private static void size() {
        RangeScheduler x = merged();
        due("19: size(0)", x.size(0), 4);
        due("19: size(1)", x.size(1), 7);
        due("19: size(2)", x.size(2), INVALID);
        for (int wrong : FAR) {
            due("19: size(wrong)", x.size(wrong), INVALID);
        }
        x.put(19, 1);
        x.put(20, 2);
        x.put(9999, 3);
        due("19: size(0)", x.size(0), 5);
        due("19: size(1)", x.size(1), 12);
    }

    private static void load() {
        RangeScheduler x = merged();
        due("20: load(0)", x.load(0), 1);
        due("20: load(1)", x.load(1), 0);
        due("20: load(2)", x.load(2), INVALID);
        for (int wrong : FAR) {
            due("20: load(wrong)", x.load(wrong), INVALID);
        }
        x.access(19);
        x.access(20);
        x.access(9999);
        x.access(9999);
        due("20: load(0)", x.load(0), 2);
        due("20: load(1)", x.load(1), 3);
    }

    private static void rangeOf() {
        RangeScheduler x = merged();
        due("21: rangeOf(0)", x.rangeOf(0), 0);
        due("21: rangeOf(19)", x.rangeOf(19), 0);
        due("21: rangeOf(20)", x.rangeOf(20), 1);
        due("21: rangeOf(9999)", x.rangeOf(9999), 1);
        due("21: rangeOf(10000)", x.rangeOf(10000), INVALID);
        for (int wrong : FAR) {
            due("21: rangeOf(wrong)", x.rangeOf(wrong), INVALID);
        }
    }

    private static void voters() {
        RangeScheduler x = cluster(8);
        due("22: voters(0)", x.voters(0), 31);
        due("22: voters(1)", x.voters(1), INVALID);
        for (int wrong : FAR) {
            due("22: voters(wrong)", x.voters(wrong), INVALID);
        }
        x.setNode(0, 0);
        due("22: voters(0), one of them down", x.voters(0), 31);
    }

    private static void leader() {
        RangeScheduler x = cluster(3);
        due("23: leader(0)", x.leader(0), 0);
        due("23: leader(1)", x.leader(1), INVALID);
        for (int wrong : FAR) {
            due("23: leader(wrong)", x.leader(wrong), INVALID);
        }
        x.setNode(0, 0);
        x.setNode(1, 0);
        due("23: leader(0)", x.leader(0), NONE);
    }

    private static void learner() {
        RangeScheduler x = new RangeScheduler();
        x.addNode(0, 16);
        x.addNode(1, 16);
        x.put(1, 29);
        x.tick();
        due("24: learner(0)", x.learner(0), NONE);
        x.tick();
        due("24: learner(0)", x.learner(0), 301);
        x.tick();
        due("24: learner(0)", x.learner(0), 201);
        x.tick();
        due("24: learner(0)", x.learner(0), 101);
        x.tick();
        due("24: learner(0)", x.learner(0), NONE);
        due("24: learner(1)", x.learner(1), INVALID);
        for (int wrong : FAR) {
            due("24: learner(wrong)", x.learner(wrong), INVALID);
        }
    }

    private static void isAvailable() {
        RangeScheduler x = cluster(4);
        due("25: isAvailable(0)", x.isAvailable(0), 1);
        x.setNode(3, 0);
        due("25: isAvailable(0), 3 of 4", x.isAvailable(0), 1);
        x.setNode(2, 0);
        due("25: isAvailable(0), 2 of 4", x.isAvailable(0), 0);
        x.setNode(3, 1);
        due("25: isAvailable(0), 3 of 4", x.isAvailable(0), 1);
        due("25: isAvailable(1)", x.isAvailable(1), INVALID);
        for (int wrong : FAR) {
            due("25: isAvailable(wrong)", x.isAvailable(wrong), INVALID);
        }
    }

    private static void splitKeyBySize() {
        RangeScheduler x = new RangeScheduler();
        due("26: splitKey(0, 0), no item", x.splitKey(0, 0), NONE);
        x.put(0, 99);
        due("26: splitKey(0, 0), one item", x.splitKey(0, 0), NONE);
        x.put(9999, 1);
        due("26: splitKey(0, 0)", x.splitKey(0, 0), 9999);
        x.put(500, 98);
        due("26: splitKey(0, 0), just half", x.splitKey(0, 0), 500);
        x.put(9999, 2);
        due("26: splitKey(0, 0), less than half", x.splitKey(0, 0), 9999);
        x.put(9999, 99);
        x.put(0, 1);
        x.put(500, 1);
        due("26: splitKey(0, 0), never half", x.splitKey(0, 0), 9999);
        x.splitAt(500);
        due("26: splitKey(0, 0), one item", x.splitKey(0, 0), NONE);
        due("26: splitKey(1, 0)", x.splitKey(1, 0), 9999);
        for (int wrong : FAR) {
            due("26: splitKey(wrong, 0)", x.splitKey(wrong, 0), INVALID);
            due("26: splitKey(0, wrong)", x.splitKey(0, wrong), INVALID);
        }
        due("26: splitKey(2, 0)", x.splitKey(2, 0), INVALID);
        due("26: splitKey(0, 2)", x.splitKey(0, 2), INVALID);
    }

    private static void splitKeyByLoad() {
        RangeScheduler x = new RangeScheduler();
        due("26: splitKey(0, 1), no sample", x.splitKey(0, 1), NONE);
        x.access(30);
        x.access(30);
        due("26: splitKey(0, 1), one key", x.splitKey(0, 1), NONE);
        x.access(10);
        due("26: splitKey(0, 1), never half", x.splitKey(0, 1), 30);
        x.access(20);
        due("26: splitKey(0, 1), just half", x.splitKey(0, 1), 30);
        x.access(10);
        due("26: splitKey(0, 1), less than half", x.splitKey(0, 1), 30);
        x.access(10);
        due("26: splitKey(0, 1), just half", x.splitKey(0, 1), 20);
        x.splitAt(30);
        due("26: splitKey(0, 1)", x.splitKey(0, 1), 20);
        due("26: splitKey(1, 1), one key", x.splitKey(1, 1), NONE);
        RangeScheduler y = new RangeScheduler();
        y.access(12);
        y.access(11);
        due("26: splitKey(0, 1), neighbours", y.splitKey(0, 1), 12);
        y.access(10);
        y.access(13);
        due("26: splitKey(0, 1), neighbours", y.splitKey(0, 1), 12);
    }

    private static void replicas() {
        RangeScheduler x = new RangeScheduler();
        due("27: replicas(0)", x.replicas(0), INVALID);
        x.addNode(0, 16);
        x.addNode(1, 16);
        x.tick();
        due("27: replicas(1)", x.replicas(1), 0);
        x.tick();
        due("27: replicas(1), a learner", x.replicas(1), 1);
        x.tick();
        due("27: replicas(1), a voter", x.replicas(1), 1);
        x.splitAt(50);
        due("27: replicas(0)", x.replicas(0), 2);
        x.setNode(0, 0);
        due("27: replicas(0), down", x.replicas(0), 2);
        due("27: replicas(2)", x.replicas(2), INVALID);
        for (int wrong : FAR) {
            due("27: replicas(wrong)", x.replicas(wrong), INVALID);
        }
    }

    private static void leaders() {
        RangeScheduler x = cluster(3);
        x.splitAt(50);
        due("28: leaders(0)", x.leaders(0), 2);
        due("28: leaders(1)", x.leaders(1), 0);
        x.setNode(0, 0);
        due("28: leaders(0)", x.leaders(0), 0);
        due("28: leaders(1)", x.leaders(1), 1);
        due("28: leaders(2)", x.leaders(2), 1);
        due("28: leaders(3)", x.leaders(3), INVALID);
        for (int wrong : FAR) {
            due("28: leaders(wrong)", x.leaders(wrong), INVALID);
        }
    }

    private static void undo() {
        RangeScheduler x = new RangeScheduler();
        due("29: undo()", x.undo(), REJECTED);
        for (int i = 1; i <= 6; i++) {
            x.put(i, i);
        }
        x.put(7, 100);
        x.size(5);
        due("29: undo()", x.undo(), 3);
        due("29: size(0)", x.size(0), 15);
        due("29: setReplication(3), which changes nothing", x.setReplication(3), 3);
        due("29: undo()", x.undo(), 3);
        due("29: size(0)", x.size(0), 15);
        due("29: undo()", x.undo(), 2);
        due("29: undo()", x.undo(), 1);
        due("29: undo()", x.undo(), 0);
        due("29: size(0)", x.size(0), 3);
        due("29: undo()", x.undo(), REJECTED);
        due("29: errorCount(1), which stays", x.errorCount(1), 2);
        due("29: errorCount(0), which stays", x.errorCount(0), 2);
        due("29: put(3, 3)", x.put(3, 3), 0);
        due("29: undo()", x.undo(), 0);
    }

    /** Each method that is marked so leaves one saved state, and undo brings the whole state back. */
    private static void undoneByEveryUndoable() {
        for (int call = 0; call < 13; call++) {
            RangeScheduler x = cluster(4);
            x.put(10, 60);
            x.put(20, 60);
            x.access(10);
            x.setNode(1, 0);
            x.setReplication(5);
            // One state fewer than the stack keeps, so that the next one drops none.
            x.undo();
            long before = x.digest();
            perform(x, call);
            checks.isTrue("29: call " + call + " changes the digest", x.digest() != before);
            due("29: undo() after call " + call, x.undo(), 3);
            due("29: digest() after call " + call, x.digest(), before);
            due("29: sizeOf(10) after call " + call, x.sizeOf(10), 60);
        }
    }

    private static void undoOfRanges() {
        RangeScheduler x = cluster(3);
        x.setSizes(0, 100);
        x.splitAt(500);
        x.splitAt(700);
        x.settle(20);
        x.splitAt(300);
        due("29: undo()", x.undo(), 3);
        due("29: start(1)", x.start(1), 500);
        due("29: undo()", x.undo(), 2);
        due("29: start(2)", x.start(2), 700);
        due("29: leader(0)", x.leader(0), 0);
        due("29: undo()", x.undo(), 1);
        due("29: start(1)", x.start(1), 500);
        due("29: rangeCount()", x.rangeCount(), 2);
        due("29: undo()", x.undo(), 0);
        due("29: rangeCount()", x.rangeCount(), 1);
    }

    private static void undoOfLearners() {
        RangeScheduler x = cluster(3);
        x.addNode(3, 16);
        x.put(1, 50);
        x.setNode(2, 0);
        x.tick();
        x.tick();
        due("29: undo()", x.undo(), 3);
        long before = x.digest();
        due("29: learner(0)", x.learner(0), 603);
        x.tick();
        due("29: undo()", x.undo(), 3);
        due("29: learner(0)", x.learner(0), 603);
        due("29: digest()", x.digest(), before);
        x.settle(50);
        due("29: voters(0)", x.voters(0), 11);
        due("29: undo()", x.undo(), 3);
        due("29: voters(0)", x.voters(0), 7);
        due("29: learner(0)", x.learner(0), 603);
        due("29: digest(), with the voter that is to be replaced", x.digest(), before);
    }

    private static void undoOfSamples() {
        RangeScheduler x = new RangeScheduler();
        x.splitAt(5000);
        x.access(9000);
        for (int i = 0; i < 31; i++) {
            x.access(i);
        }
        x.tick();
        x.undo();
        long before = x.digest();
        x.access(40);
        due("29: load(1)", x.load(1), 0);
        due("29: undo()", x.undo(), 3);
        due("29: load(1), the oldest sample being back", x.load(1), 1);
        due("29: digest()", x.digest(), before);
    }

    private static void perform(RangeScheduler x, int call) {
        switch (call) {
            case 0: x.addNode(1, 1); break;
            case 1: x.setNode(0, 0); break;
            case 2: x.setReplication(2); break;
            case 3: x.setSizes(1, 2); break;
            case 4: x.setLoads(1, 2); break;
            case 5: x.setSpeed(2); break;
            case 6: x.put(77, 7); break;
            case 7: x.put(10, 3); break;
            case 8: x.access(77); break;
            case 9: x.splitAt(77); break;
            case 10: x.tick(); break;
            case 11: x.remove(10); break;
            default: x.settle(7); break;
        }
    }

    private static void errorCount() {
        RangeScheduler x = new RangeScheduler();
        for (int kind = 0; kind < 3; kind++) {
            due("30: errorCount(kind)", x.errorCount(kind), 0);
        }
        due("30: errorCount(3)", x.errorCount(3), INVALID);
        due("30: errorCount(-1)", x.errorCount(-1), INVALID);
        due("30: errorCount(0)", x.errorCount(0), 2);
        x.remove(5);
        due("30: errorCount(1)", x.errorCount(1), 1);
        for (int node = 0; node < 9; node++) {
            x.addNode(0, 1);
        }
        due("30: errorCount(2)", x.errorCount(2), 1);
        x.leader(0);
        x.learner(0);
        x.access(0);
        x.splitKey(0, 0);
        due("30: errorCount(0), as NONE is no error", x.errorCount(0), 2);
    }

    private static void digest() {
        RangeScheduler x = new RangeScheduler();
        x.addNode(2, 9);
        x.addNode(2, 8);
        x.put(100, 31);
        x.put(200, 50);
        x.tick();
        x.tick();
        x.access(7);
        x.access(3);
        x.access(9);
        x.setNode(1, 0);
        x.setNode(1, 1);
        x.tick();
        x.put(1, 0);
        x.undo();
        x.tick();
        x.remove(5);
        long h = 12532;
        int[] values = {1, 1, 0, 4, 3, 3, 20, 100, 2, 16, 10,
            2, 2, 9, 1, 1, 1, 2, 8, 1, 1, 0,
            1, 0, 81, 3, 1, 0, 901, -1, 200, 9,
            3, 7, 3, 9, 1, 2, 0, 0, 0, 0, 0, 0};
        for (int value : values) {
            h = 31 * h + value;
        }
        due("31: digest()", x.digest(), h);
        due("31: digest(), which changes nothing", x.digest(), h);
    }

    /** 8 nodes, 16 ranges, 64 items and 32 samples: no row is left by a call. */
    private static void everythingFull() {
        RangeScheduler x = cluster(8);
        x.setSizes(0, 9999);
        for (int i = 0; i < 15; i++) {
            due("full: splitAt(key)", x.splitAt(9985 + i), i + 1);
        }
        for (int i = 0; i < 64; i++) {
            due("full: put(key, 99)", x.put(9936 + i, 99), 0);
        }
        for (int i = 0; i < 40; i++) {
            due("full: access(key)", x.access(9960 + i), 0);
        }
        due("full: size(0)", x.size(0), 49 * 99);
        due("full: splitKey(0, 0)", x.splitKey(0, 0), 9961);
        due("full: load(0)", x.load(0), 17);
        due("full: splitKey(0, 1)", x.splitKey(0, 1), 9977);
        due("full: setNode(0, 0)", x.setNode(0, 0), 16);
        due("full: setNode(1, 0)", x.setNode(1, 0), 16);
        due("full: setNode(2, 0)", x.setNode(2, 0), 0);
        due("full: setNode(2, 1)", x.setNode(2, 1), 16);
        due("full: setNode(0, 1)", x.setNode(0, 1), 16);
        due("full: setNode(1, 1)", x.setNode(1, 1), 16);
        due("full: leaders(2)", x.leaders(2), 6);
        due("full: leaders(3)", x.leaders(3), 5);
        due("full: leaders(4)", x.leaders(4), 5);
        due("full: tick(), which shifts a leader", x.tick(), 700);
        due("full: settle(200), 5 leaders more for nodes 0 and 1", x.settle(200), 6);
        for (int node = 0; node < 8; node++) {
            due("full: replicas(node), no other node being in a fit zone", x.replicas(node), node < 5 ? 16 : 0);
        }
        due("full: undo()", x.undo(), 3);
        x.setSizes(9999, 9999);
        x.setLoads(32, 32);
        due("full: tick(), which merges", x.tick(), 600);
        due("full: rangeCount()", x.rangeCount(), 15);
        due("full: start(14)", x.start(14), 9999);
        due("full: errorCount(0)", x.errorCount(0), 0);
    }
}
