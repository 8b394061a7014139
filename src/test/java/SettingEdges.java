/** Promises 1 and 4 to 7: a new object and the settings. */
final class SettingEdges {
    private static final int INVALID = Edges.INVALID;
    private static final int REJECTED = Edges.REJECTED;
    private static final int LEAST = Integer.MIN_VALUE;
    private static final int GREATEST = Integer.MAX_VALUE;

    private final Edges e;

    SettingEdges(Edges edges) {
        e = edges;
    }

    void run() {
        newCluster();
        newRange();
        newReplication();
        newSizes();
        newLoads();
        newSpeed();
        newStack();
        replication();
        sizes();
        sizesAtWork();
        loads();
        loadsAtWork();
        speed();
    }

    private void newCluster() {
        e.sentence(1, "Creates a cluster without nodes and items");
        RangeScheduler x = new RangeScheduler();
        e.refused(x, "setNode(0, 0)", () -> x.setNode(0, 0), INVALID);
        e.refused(x, "replicas(0)", () -> x.replicas(0), INVALID);
        e.due("size(0)", x.size(0), 0);
        e.due("addNode(0, 1), the first", x.addNode(0, 1), 0);
        e.due("replicas(0)", x.replicas(0), 0);
        e.due("put(0, 5), the first", x.put(0, 5), 0);
        e.due("size(0)", x.size(0), 5);
        e.due("errorCount(1), of a new one", new RangeScheduler().errorCount(1), 0);
        e.due("time(), of a new one", new RangeScheduler().time(), 0);
        e.due("load(0), of a new one", new RangeScheduler().load(0), 0);
    }

    private void newRange() {
        e.sentence(1, "one range without voters");
        RangeScheduler x = new RangeScheduler();
        e.due("rangeCount()", x.rangeCount(), 1);
        e.due("voters(0)", x.voters(0), 0);
        e.due("leader(0)", x.leader(0), Edges.NONE);
        e.due("learner(0)", x.learner(0), Edges.NONE);
        x.addNode(0, 1);
        x.tick();
        e.due("voters(0) after CREATE", x.voters(0), 1);

        e.sentence(1, "Initially there is one range, from 0 to 9999, without voters.");
        RangeScheduler y = new RangeScheduler();
        e.due("start(0)", y.start(0), 0);
        e.due("rangeOf(9999)", y.rangeOf(9999), 0);
        e.due("isAvailable(0)", y.isAvailable(0), 0);
        e.refused(y, "start(1)", () -> y.start(1), INVALID);
        e.refused(y, "rangeOf(10000)", () -> y.rangeOf(10000), INVALID);
    }

    private void newReplication() {
        e.sentence(1, "R = 3");
        RangeScheduler x = Edges.nodes(0, 1, 2, 3);
        x.settle(50);
        e.due("voters(0), the third but not the fourth", x.voters(0), 7);
        e.due("setReplication(4)", x.setReplication(4), 3);
        x.settle(50);
        e.due("voters(0), R being 4", x.voters(0), 15);

        e.sentence(1, "Let R be the replication factor, 3 at first.");
        e.due("setReplication(2) of a new one", new RangeScheduler().setReplication(2), 3);
        e.due("setReplication(5)", x.setReplication(5), 4);
    }

    private void newSizes() {
        e.sentence(1, "minimum size 20");
        RangeScheduler x = twoCold();
        x.put(5, 20);
        e.due("tick(), a size of 20", x.tick(), 0);
        x.put(5, 19);
        e.due("tick(), a size of 19", x.tick(), 600);

        e.sentence(1, "maximum size 100");
        RangeScheduler y = oneVoter();
        y.put(5, 50);
        y.put(6, 50);
        e.due("tick(), a size of 100", y.tick(), 0);
        y.put(6, 51);
        e.due("tick(), a size of 101", y.tick(), 400);
        e.due("setSizes(0, 9) of a new one", new RangeScheduler().setSizes(0, 9), 100);
    }

    private void newLoads() {
        e.sentence(1, "minimum load 2");
        RangeScheduler x = twoCold();
        Edges.accesses(x, 5, 2);
        e.due("tick(), a load of 2", x.tick(), 0);
        x.undo();
        x.undo();
        e.due("tick(), a load of 1", x.tick(), 600);

        e.sentence(1, "maximum load 16");
        RangeScheduler y = oneVoter();
        Edges.accesses(y, 5, 15);
        y.access(6);
        e.due("tick(), a load of 16", y.tick(), 0);
        y.access(6);
        e.due("tick(), a load of 17", y.tick(), 500);
        e.due("setLoads(0, 9) of a new one", new RangeScheduler().setLoads(0, 9), 16);
    }

    private void newSpeed() {
        e.sentence(1, "speed 10");
        e.due("learner(0), a size of 9", learnerOf(Edges.nodes(0, 1), 9), 101);
        e.due("learner(0), a size of 10", learnerOf(Edges.nodes(0, 1), 10), 201);
        e.due("setSpeed(9) of a new one", new RangeScheduler().setSpeed(9), 10);
    }

    private void newStack() {
        e.sentence(1, "an empty undo stack");
        RangeScheduler x = new RangeScheduler();
        e.refused(x, "undo()", () -> x.undo(), REJECTED);
        x.put(1, 1);
        e.due("undo() after put(1, 1)", x.undo(), 0);
    }

    private void replication() {
        e.sentence(4, "Sets the replication factor R.");
        RangeScheduler x = Edges.settled(2, 0, 1, 2);
        e.due("tick(), 2 voters for R = 2", x.tick(), 0);
        x.setReplication(3);
        e.due("tick(), 2 voters for R = 3", x.tick(), 200);

        e.sentence(4, "- `replicas`: 1 to 5");
        RangeScheduler y = Edges.nodes(0, 1, 2, 3, 0, 1);
        e.due("setReplication(1)", y.setReplication(1), 3);
        y.settle(50);
        e.due("voters(0)", y.voters(0), 1);
        e.due("setReplication(5)", y.setReplication(5), 1);
        y.settle(50);
        e.due("voters(0)", y.voters(0), 31);

        e.sentence(4, "INVALID if replicas is out of range.");
        for (int wrong : new int[] {LEAST, -1, 0, 6, GREATEST}) {
            e.refused(y, "setReplication(" + wrong + ")", () -> y.setReplication(wrong), INVALID);
        }
        e.due("setReplication(5), as before", y.setReplication(5), 5);

        e.sentence(4, "Returns the previous factor");
        e.due("setReplication(2)", y.setReplication(2), 5);
        e.due("setReplication(2), again", y.setReplication(2), 2);

        e.sentence(4, "Undoable.");
        e.saves(y, "setReplication(3)", () -> y.setReplication(3), 2);
        e.saves(y, "setReplication(2), which changes nothing", () -> y.setReplication(2), 2);
        e.due("setReplication(2) after it is taken back", y.setReplication(2), 2);
    }

    private void sizes() {
        e.sentence(5, "- `minimum`: 0 to maximum");
        RangeScheduler x = new RangeScheduler();
        e.due("setSizes(0, 50)", x.setSizes(0, 50), 100);
        e.due("setSizes(49, 50)", x.setSizes(49, 50), 50);
        e.due("setSizes(50, 50)", x.setSizes(50, 50), 50);
        e.refused(x, "setSizes(51, 50)", () -> x.setSizes(51, 50), INVALID);
        e.refused(x, "setSizes(-1, 50)", () -> x.setSizes(-1, 50), INVALID);

        e.sentence(5, "- `maximum`: 1 to 9999");
        e.due("setSizes(0, 1)", x.setSizes(0, 1), 50);
        e.due("setSizes(1, 1)", x.setSizes(1, 1), 1);
        e.due("setSizes(0, 9999)", x.setSizes(0, 9999), 1);
        e.due("setSizes(9999, 9999)", x.setSizes(9999, 9999), 9999);
        e.refused(x, "setSizes(0, 0)", () -> x.setSizes(0, 0), INVALID);
        e.refused(x, "setSizes(0, 10000)", () -> x.setSizes(0, 10000), INVALID);

        e.sentence(5, "INVALID if an argument is out of range.");
        int[][] wrong = {{-1, 5}, {6, 5}, {0, -1}, {-1, -1}, {10000, 10000}, {LEAST, 5}, {5, LEAST}, {GREATEST, 5},
            {5, GREATEST}, {LEAST, LEAST}, {GREATEST, GREATEST}};
        for (int[] pair : wrong) {
            e.refused(x, "setSizes(" + pair[0] + ", " + pair[1] + ")", () -> x.setSizes(pair[0], pair[1]), INVALID);
        }
        e.due("setSizes(5, 5)", x.setSizes(5, 5), 9999);

        e.sentence(5, "Returns the previous maximum size");
        e.due("setSizes(3, 7)", x.setSizes(3, 7), 5);
        e.due("setSizes(3, 7), again", x.setSizes(3, 7), 7);

        e.sentence(5, "Undoable.");
        e.saves(x, "setSizes(4, 8)", () -> x.setSizes(4, 8), 7);
        e.saves(x, "setSizes(3, 7), which changes nothing", () -> x.setSizes(3, 7), 7);
        e.due("setSizes(3, 7) after it is taken back", x.setSizes(3, 7), 7);
    }

    private void sizesAtWork() {
        e.sentence(5, "Sets the minimum and the maximum size.");
        RangeScheduler x = twoCold();
        x.setSizes(0, 100);
        e.due("tick(), a minimum of 0", x.tick(), 0);
        x.setSizes(1, 100);
        e.due("tick(), a minimum of 1", x.tick(), 600);
        x.put(5, 1);
        x.put(6, 1);
        x.setSizes(0, 2);
        e.due("tick(), a maximum of 2", x.tick(), 0);
        x.setSizes(0, 1);
        e.due("tick(), a maximum of 1", x.tick(), 400);
    }

    private void loads() {
        e.sentence(6, "- `minimum`: 0 to maximum");
        RangeScheduler x = new RangeScheduler();
        e.due("setLoads(0, 20)", x.setLoads(0, 20), 16);
        e.due("setLoads(19, 20)", x.setLoads(19, 20), 20);
        e.due("setLoads(20, 20)", x.setLoads(20, 20), 20);
        e.refused(x, "setLoads(21, 20)", () -> x.setLoads(21, 20), INVALID);
        e.refused(x, "setLoads(-1, 20)", () -> x.setLoads(-1, 20), INVALID);

        e.sentence(6, "- `maximum`: 1 to 32");
        e.due("setLoads(0, 1)", x.setLoads(0, 1), 20);
        e.due("setLoads(1, 1)", x.setLoads(1, 1), 1);
        e.due("setLoads(0, 32)", x.setLoads(0, 32), 1);
        e.due("setLoads(32, 32)", x.setLoads(32, 32), 32);
        e.refused(x, "setLoads(0, 0)", () -> x.setLoads(0, 0), INVALID);
        e.refused(x, "setLoads(0, 33)", () -> x.setLoads(0, 33), INVALID);

        e.sentence(6, "INVALID if an argument is out of range.");
        int[][] wrong = {{-1, 5}, {6, 5}, {0, -1}, {-1, -1}, {33, 33}, {LEAST, 5}, {5, LEAST}, {GREATEST, 5},
            {5, GREATEST}, {LEAST, LEAST}, {GREATEST, GREATEST}};
        for (int[] pair : wrong) {
            e.refused(x, "setLoads(" + pair[0] + ", " + pair[1] + ")", () -> x.setLoads(pair[0], pair[1]), INVALID);
        }
        e.due("setLoads(5, 5)", x.setLoads(5, 5), 32);

        e.sentence(6, "Returns the previous maximum load");
        e.due("setLoads(3, 7)", x.setLoads(3, 7), 5);
        e.due("setLoads(3, 7), again", x.setLoads(3, 7), 7);

        e.sentence(6, "Undoable.");
        e.saves(x, "setLoads(4, 8)", () -> x.setLoads(4, 8), 7);
        e.saves(x, "setLoads(3, 7), which changes nothing", () -> x.setLoads(3, 7), 7);
        e.due("setLoads(3, 7) after it is taken back", x.setLoads(3, 7), 7);
    }

    private void loadsAtWork() {
        e.sentence(6, "Sets the minimum and the maximum load.");
        RangeScheduler x = twoCold();
        x.setLoads(0, 16);
        e.due("tick(), a minimum of 0", x.tick(), 0);
        x.setLoads(1, 16);
        e.due("tick(), a minimum of 1", x.tick(), 600);
        x.access(5);
        x.access(6);
        x.setLoads(0, 2);
        e.due("tick(), a maximum of 2", x.tick(), 0);
        x.setLoads(0, 1);
        e.due("tick(), a maximum of 1", x.tick(), 500);
        RangeScheduler y = oneVoter();
        y.setLoads(0, 32);
        Edges.accesses(y, 5, 20);
        Edges.accesses(y, 6, 20);
        e.due("tick(), a maximum of 32, which no load exceeds", y.tick(), 0);
        y.setLoads(0, 31);
        e.due("tick(), a maximum of 31", y.tick(), 500);
    }

    private void speed() {
        e.sentence(7, "- `speed`: 1 to 99");
        RangeScheduler slow = Edges.nodes(0, 1);
        e.due("setSpeed(1)", slow.setSpeed(1), 10);
        e.due("learner(0), a size of 99", learnerOf(slow, 99), 10001);
        RangeScheduler fast = Edges.nodes(0, 1);
        e.due("setSpeed(99)", fast.setSpeed(99), 10);
        e.due("learner(0), a size of 98", learnerOf(fast, 98), 101);
        RangeScheduler fastToo = Edges.nodes(0, 1);
        fastToo.setSpeed(99);
        e.due("learner(0), a size of 99", learnerOf(fastToo, 99), 201);

        e.sentence(7, "INVALID if speed is out of range.");
        for (int wrong : new int[] {LEAST, -1, 0, 100, GREATEST}) {
            e.refused(fast, "setSpeed(" + wrong + ")", () -> fast.setSpeed(wrong), INVALID);
        }
        e.due("setSpeed(99), as before", fast.setSpeed(99), 99);

        e.sentence(7, "Sets the speed.");
        RangeScheduler x = Edges.nodes(0, 1);
        x.setSpeed(5);
        e.due("learner(0), a size of 4", learnerOf(x, 4), 101);
        RangeScheduler y = Edges.nodes(0, 1);
        y.setSpeed(5);
        e.due("learner(0), a size of 5", learnerOf(y, 5), 201);

        e.sentence(7, "It does not affect learners that exist already.");
        y.setSpeed(1);
        e.due("learner(0), which exists already", y.learner(0), 201);
        y.tick();
        e.due("learner(0) a tick later", y.learner(0), 101);
        y.tick();
        e.due("voters(0) two ticks later", y.voters(0), 3);
        y.addNode(2, 16);
        y.tick();
        e.due("learner(0), a later one", y.learner(0), 602);

        e.sentence(7, "Returns the previous speed");
        e.due("setSpeed(2)", y.setSpeed(2), 1);
        e.due("setSpeed(2), again", y.setSpeed(2), 2);

        e.sentence(7, "Undoable.");
        e.saves(y, "setSpeed(3)", () -> y.setSpeed(3), 2);
        e.saves(y, "setSpeed(2), which changes nothing", () -> y.setSpeed(2), 2);
        e.due("setSpeed(2) after it is taken back", y.setSpeed(2), 2);
    }

    /** One range with one voter, and the settings of a new object but for R. */
    private static RangeScheduler oneVoter() {
        RangeScheduler x = Edges.nodes(0);
        x.setReplication(1);
        x.tick();
        return x;
    }

    /** Two empty ranges with the same voter, with the settings of a new object but for R. */
    private static RangeScheduler twoCold() {
        RangeScheduler x = oneVoter();
        x.splitAt(10);
        return x;
    }

    /** What learner(0) answers when a range of this size has just got a learner. */
    private static int learnerOf(RangeScheduler x, int size) {
        x.put(5, size);
        x.tick();
        x.tick();
        return x.learner(0);
    }
}
