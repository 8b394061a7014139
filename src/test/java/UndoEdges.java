/** Promises 29 to 31: undo, errors and the digest. */
final class UndoEdges {
    private static final int NONE = Edges.NONE;
    private static final int INVALID = Edges.INVALID;
    private static final int REJECTED = Edges.REJECTED;
    private static final int FULL = Edges.FULL;
    private static final int CALLS_OF_AN_OBJECT = 512;

    private final Edges e;

    UndoEdges(Edges edges) {
        e = edges;
    }

    void run() {
        whatIsSaved();
        learnersAreSaved();
        whatIsNotSaved();
        whichIsSaved();
        latestFour();
        undo();
        errors();
        errorsInOrder();
        noneIsNoError();
        constants();
        errorCount();
        digestOfNew();
        digestOfErrorsAndSettings();
        digestOfNodes();
        digestOfRanges();
        digestOfSamples();
        digestOfPerformed();
        lastCall();
    }

    private void whatIsSaved() {
        e.sentence(29, "Every method that is marked \"undoable\" saves everything except the error counters on an undo stack "
                + "when it succeeds, also if it changes nothing.");
        RangeScheduler x = Edges.settled(3, 0, 1, 2);
        x.put(5, 50);
        x.access(5);
        e.saves(x, "setReplication(3), which changes nothing", () -> x.setReplication(3), 3);
        e.saves(x, "setSizes(0, 100), which changes nothing", () -> x.setSizes(0, 100), 100);
        e.saves(x, "setLoads(2, 16), which changes nothing", () -> x.setLoads(2, 16), 16);
        e.saves(x, "setSpeed(10), which changes nothing", () -> x.setSpeed(10), 10);
        e.saves(x, "put(5, 50), which changes nothing", () -> x.put(5, 50), 50);
        e.saves(x, "setNode(0, 0)", () -> x.setNode(0, 0), 1);
        e.due("leader(0), undone", x.leader(0), 0);
        // Items between others, and behind them.
        x.put(3, 30);
        x.put(7, 70);
        e.saves(x, "put(4, 9)", () -> x.put(4, 9), 0);
        e.saves(x, "remove(5)", () -> x.remove(5), 50);
        e.saves(x, "remove(3)", () -> x.remove(3), 30);
        int[] sizes = {30, 0, 50, 0, 70};
        for (int key = 3; key <= 7; key++) {
            e.due("sizeOf(" + key + "), undone", x.sizeOf(key), sizes[key - 3]);
        }
        x.remove(7);
        // Of the errors of a call that is undone nothing is forgotten.
        e.refused(x, "put(5, 0)", () -> x.put(5, 0), INVALID);
        x.put(6, 1);
        e.refused(x, "remove(7)", () -> x.remove(7), REJECTED);
        e.due("undo()", x.undo(), 2);
        e.due("errorCount(0), not undone", x.errorCount(0), 1);
        e.due("errorCount(1), not undone", x.errorCount(1), 1);
    }

    private void learnersAreSaved() {
        e.sentence(29, "saves everything except the error counters");
        RangeScheduler x = Edges.settled(3, 0, 1, 2, 3);
        x.put(5, 10);
        x.setNode(1, 0);
        e.saves(x, "tick(), which makes a learner", () -> x.tick(), 200);
        e.due("learner(0), undone", x.learner(0), NONE);
        x.tick();
        e.saves(x, "tick(), which lets it progress", () -> x.tick(), 0);
        e.due("learner(0), undone", x.learner(0), 203);
        e.saves(x, "setNode(3, 0), which loses it", () -> x.setNode(3, 0), 1);
        e.due("learner(0), undone", x.learner(0), 203);
        e.saves(x, "settle(2), which makes it a voter", () -> x.settle(2), 2);
        e.due("learner(0), undone", x.learner(0), 203);
        e.due("voters(0), undone", x.voters(0), 7);
        x.settle(2);
        e.due("voters(0), the node to be replaced being known yet", x.voters(0), 13);
    }

    private void whatIsNotSaved() {
        e.sentence(29, "when it succeeds");
        RangeScheduler x = new RangeScheduler();
        x.put(1, 1);
        e.refused(x, "put(1, 100)", () -> x.put(1, 100), INVALID);
        e.refused(x, "remove(2)", () -> x.remove(2), REJECTED);
        e.refused(x, "setNode(0, 0)", () -> x.setNode(0, 0), INVALID);
        x.sizeOf(1);
        x.digest();
        x.rangeCount();
        x.time();
        e.due("undo(), put(1, 1) being the only one saved", x.undo(), 0);
        e.due("sizeOf(1)", x.sizeOf(1), 0);
        e.refused(x, "undo()", () -> x.undo(), REJECTED);
    }

    private void whichIsSaved() {
        e.sentence(29, "The saved state is the one from before the call.");
        RangeScheduler x = new RangeScheduler();
        long empty = x.digest();
        x.put(1, 5);
        long one = x.digest();
        x.put(1, 7);
        e.due("undo()", x.undo(), 1);
        e.due("sizeOf(1), before put(1, 7)", x.sizeOf(1), 5);
        e.due("digest()", x.digest(), one);
        e.due("undo()", x.undo(), 0);
        e.due("sizeOf(1), before put(1, 5)", x.sizeOf(1), 0);
        e.due("digest()", x.digest(), empty);
    }

    private void latestFour() {
        e.sentence(29, "The stack keeps the latest 4 saved states and drops older ones.");
        for (int calls = 3; calls <= 9; calls++) {
            RangeScheduler x = new RangeScheduler();
            for (int size = 1; size <= calls; size++) {
                x.put(1, size);
            }
            int kept = Math.min(calls, 4);
            for (int left = kept - 1; left >= 0; left--) {
                e.due("undo() after " + calls + " calls", x.undo(), left);
                e.due("sizeOf(1)", x.sizeOf(1), calls - (kept - left));
            }
            e.refused(x, "undo(), the older ones being dropped", () -> x.undo(), REJECTED);
        }
        // Saving anew after some were taken back drops the oldest only when there are 4 again.
        RangeScheduler y = new RangeScheduler();
        for (int size = 1; size <= 4; size++) {
            y.put(1, size);
        }
        y.undo();
        y.undo();
        y.put(1, 13);
        y.put(1, 14);
        y.put(1, 15);
        int[] sizes = {14, 13, 2, 1};
        for (int i = 0; i < 4; i++) {
            e.due("undo()", y.undo(), 3 - i);
            e.due("sizeOf(1)", y.sizeOf(1), sizes[i]);
        }
        e.refused(y, "undo()", () -> y.undo(), REJECTED);
    }

    private void undo() {
        e.sentence(29, "REJECTED if the stack is empty.");
        RangeScheduler x = new RangeScheduler();
        e.refused(x, "undo()", () -> x.undo(), REJECTED);
        x.access(1);
        e.due("undo()", x.undo(), 0);
        e.refused(x, "undo()", () -> x.undo(), REJECTED);

        e.sentence(29, "Returns the number of states that are left on the stack");
        for (int i = 0; i < 4; i++) {
            x.access(i);
        }
        for (int left = 3; left >= 0; left--) {
            e.due("undo()", x.undo(), left);
        }
        e.refused(x, "undo()", () -> x.undo(), REJECTED);

        e.sentence(29, "Restores the latest saved state and removes it from the undo stack.");
        RangeScheduler y = new RangeScheduler();
        y.setSpeed(11);
        y.setSpeed(12);
        y.setSpeed(13);
        e.due("undo()", y.undo(), 2);
        e.due("setSpeed(14)", y.setSpeed(14), 12);
        e.due("undo()", y.undo(), 2);
        e.due("undo(), the one before it", y.undo(), 1);
        e.due("setSpeed(15)", y.setSpeed(15), 11);
        e.due("undo()", y.undo(), 1);
        e.due("undo()", y.undo(), 0);
        e.due("setSpeed(16)", y.setSpeed(16), 10);
    }

    private void errors() {
        e.sentence(30, "A method that fails returns an error code and changes nothing except the counter of that error, which "
                + "grows by 1.");
        RangeScheduler x = Edges.settled(3, 0, 1, 2, 3, 0, 1, 2, 3);
        x.put(1, 1);
        x.access(1);
        x.setNode(7, 0);
        e.refused(x, "addNode(0, 0)", () -> x.addNode(0, 0), INVALID);
        e.refused(x, "addNode(0, 1)", () -> x.addNode(0, 1), FULL);
        e.refused(x, "setNode(7, 0)", () -> x.setNode(7, 0), REJECTED);
        e.refused(x, "setNode(8, 0)", () -> x.setNode(8, 0), INVALID);
        e.refused(x, "setReplication(6)", () -> x.setReplication(6), INVALID);
        e.refused(x, "setSizes(2, 1)", () -> x.setSizes(2, 1), INVALID);
        e.refused(x, "setLoads(2, 1)", () -> x.setLoads(2, 1), INVALID);
        e.refused(x, "setSpeed(0)", () -> x.setSpeed(0), INVALID);
        e.refused(x, "put(1, 0)", () -> x.put(1, 0), INVALID);
        e.due("sizeOf(1)", x.sizeOf(1), 1);
        e.refused(x, "remove(2)", () -> x.remove(2), REJECTED);
        e.refused(x, "access(-1)", () -> x.access(-1), INVALID);
        e.refused(x, "splitAt(0)", () -> x.splitAt(0), REJECTED);
        e.refused(x, "settle(0)", () -> x.settle(0), INVALID);
        e.refused(x, "errorCount(3)", () -> x.errorCount(3), INVALID);
        e.due("errorCount(0)", x.errorCount(0), 10);
        e.due("errorCount(1)", x.errorCount(1), 3);
        e.due("errorCount(2)", x.errorCount(2), 1);
    }

    private void errorsInOrder() {
        e.sentence(30, "If several errors apply, INVALID is returned before REJECTED, and REJECTED before FULL.");
        RangeScheduler x = Edges.settled(1, 0, 0, 0, 0, 0, 0, 0, 0);
        e.refused(x, "addNode(-1, 1), INVALID and FULL", () -> x.addNode(-1, 1), INVALID);
        e.refused(x, "addNode(0, 1), FULL", () -> x.addNode(0, 1), FULL);
        e.refused(x, "remove(-1), INVALID and no item", () -> x.remove(-1), INVALID);
        e.refused(x, "remove(0), no item", () -> x.remove(0), REJECTED);
        e.refused(x, "setNode(8, 1), INVALID", () -> x.setNode(8, 1), INVALID);
        e.refused(x, "setNode(7, 1), REJECTED", () -> x.setNode(7, 1), REJECTED);
        for (int i = 1; i < 16; i++) {
            x.splitAt(10 * i);
        }
        e.refused(x, "splitAt(-1), INVALID and FULL", () -> x.splitAt(-1), INVALID);
        e.refused(x, "splitAt(10), REJECTED and FULL", () -> x.splitAt(10), REJECTED);
        e.refused(x, "splitAt(11), FULL", () -> x.splitAt(11), FULL);
        for (int i = 0; i < 64; i++) {
            x.put(i, 1);
        }
        e.refused(x, "put(64, 0), INVALID and FULL", () -> x.put(64, 0), INVALID);
        e.refused(x, "put(64, 1), FULL", () -> x.put(64, 1), FULL);
        e.due("put(63, 1)", x.put(63, 1), 1);
    }

    private void noneIsNoError() {
        e.sentence(30, "NONE is returned only if no error applies.");
        RangeScheduler x = new RangeScheduler();
        e.due("leader(0)", x.leader(0), NONE);
        e.due("learner(0)", x.learner(0), NONE);
        e.due("splitKey(0, 0)", x.splitKey(0, 0), NONE);
        e.due("splitKey(0, 1)", x.splitKey(0, 1), NONE);
        e.due("access(0)", x.access(0), NONE);
        e.due("errorCount(0)", x.errorCount(0), 0);
        e.refused(x, "leader(1)", () -> x.leader(1), INVALID);
        e.refused(x, "learner(1)", () -> x.learner(1), INVALID);
        e.refused(x, "splitKey(1, 0)", () -> x.splitKey(1, 0), INVALID);
        e.refused(x, "splitKey(0, 2)", () -> x.splitKey(0, 2), INVALID);
        e.refused(x, "access(10000)", () -> x.access(10000), INVALID);
    }

    private void constants() {
        RangeScheduler x = new RangeScheduler();
        e.sentence(30, "- `NONE = -1`: Returned where there is no such value.");
        e.due("NONE", RangeScheduler.NONE, -1);
        e.due("leader(0)", x.leader(0), RangeScheduler.NONE);

        e.sentence(30, "- `INVALID = -2`: An argument is out of range or names something that does not exist.");
        e.due("INVALID", RangeScheduler.INVALID, -2);
        e.due("put(0, 100), out of range", x.put(0, 100), RangeScheduler.INVALID);
        e.due("setNode(0, 0), no such node", x.setNode(0, 0), RangeScheduler.INVALID);

        e.sentence(30, "- `REJECTED = -3`: The present state does not allow the call.");
        e.due("REJECTED", RangeScheduler.REJECTED, -3);
        e.due("remove(0)", x.remove(0), RangeScheduler.REJECTED);
        x.put(0, 1);
        e.due("remove(0), the state allowing it", x.remove(0), 1);

        e.sentence(30, "- `FULL = -4`: A capacity would be exceeded.");
        e.due("FULL", RangeScheduler.FULL, -4);
        Edges.split(x, 1, 2, 3, 4, 5, 6, 7, 8, 9, 10, 11, 12, 13, 14);
        e.due("splitAt(15)", x.splitAt(15), 15);
        e.due("splitAt(16)", x.splitAt(16), RangeScheduler.FULL);
    }

    private void errorCount() {
        e.sentence(30, "- `kind`: 0 for INVALID, 1 for REJECTED, 2 for FULL");
        RangeScheduler x = new RangeScheduler();
        for (int node = 0; node < 8; node++) {
            x.addNode(0, 1);
        }
        x.put(0, 0);
        e.due("errorCount(0)", x.errorCount(0), 1);
        e.due("errorCount(1)", x.errorCount(1), 0);
        e.due("errorCount(2)", x.errorCount(2), 0);
        Edges.split(x, 0, 0);
        e.due("errorCount(1)", x.errorCount(1), 2);
        e.due("errorCount(2)", x.errorCount(2), 0);
        for (int i = 0; i < 3; i++) {
            x.addNode(0, 1);
        }
        e.due("errorCount(0)", x.errorCount(0), 1);
        e.due("errorCount(1)", x.errorCount(1), 2);
        e.due("errorCount(2)", x.errorCount(2), 3);

        e.sentence(30, "INVALID (which is counted, too) if kind is out of range.");
        for (int wrong : new int[] {Integer.MIN_VALUE, -1, 3, Integer.MAX_VALUE}) {
            e.refused(x, "errorCount(" + wrong + ")", () -> x.errorCount(wrong), INVALID);
        }
        e.due("errorCount(0)", x.errorCount(0), 5);

        e.sentence(30, "Returns an error counter.");
        e.due("errorCount(0)", x.errorCount(0), 5);
        e.due("errorCount(0), asking counts nothing", x.errorCount(0), 5);

        e.sentence(30, "Returns the number of failed calls of that kind");
        x.put(10000, 100);
        e.due("errorCount(0), two wrong arguments being one call", x.errorCount(0), 6);
        x.put(9999, 99);
        e.due("errorCount(0), a call that succeeds", x.errorCount(0), 6);
    }

    // ---- the digest, from values that are written down

    private static long hash(int... values) {
        long h = 12532;
        for (int value : values) {
            h = 31 * h + value;
        }
        return h;
    }

    private static int[] join(int[]... rows) {
        int length = 0;
        for (int[] row : rows) {
            length += row.length;
        }
        int[] all = new int[length];
        int end = 0;
        for (int[] row : rows) {
            System.arraycopy(row, 0, all, end, row.length);
            end += row.length;
        }
        return all;
    }

    private static int[] row(int... values) {
        return values;
    }

    private static final int[] NO_RANGES_YET = {1, 0, 0, 0, 0, NONE, NONE, NONE, NONE, NONE};
    private static final int[] NO_SAMPLES = {0};
    private static final int[] NOTHING_PERFORMED = new int[8];
    private static final int[] FIRST_SETTINGS = {3, 20, 100, 2, 16, 10};

    private void digestOfNew() {
        e.sentence(31, "It starts with h = 12532.");
        RangeScheduler x = new RangeScheduler();
        long due = hash(join(row(0, 0, 0, 0, 0), FIRST_SETTINGS, row(0), NO_RANGES_YET, NO_SAMPLES, NOTHING_PERFORMED));
        e.due("digest() of a new one", x.digest(), due);
        e.isTrue("another start gives another hash", due != hash());

        e.sentence(31, "Returns a hash of the state.");
        e.due("digest(), once more", x.digest(), due);
        x.put(1, 1);
        e.isTrue("digest() after a change is another", x.digest() != due);
        x.undo();
        e.due("digest(), undone", x.digest(), due);

        e.sentence(31, "Returns the hash.");
        e.due("digest()", x.digest(), due);
        e.due("digest() of another object", new RangeScheduler().digest(), due);
    }

    private void digestOfErrorsAndSettings() {
        e.sentence(31, "For each of the following values v, in this order, h becomes 31 * h + v (long arithmetic, overflow wraps).");
        RangeScheduler x = new RangeScheduler();
        x.put(0, 0);
        x.put(0, 0);
        x.remove(0);
        x.setReplication(5);
        x.setSizes(7, 77);
        x.setLoads(9, 19);
        e.due("digest()", x.digest(), hash(join(row(2, 1, 0, 3, 0, 5, 7, 77, 9, 19, 10, 0), NO_RANGES_YET, NO_SAMPLES,
                NOTHING_PERFORMED)));
        e.isTrue("the hash has wrapped: exact arithmetic would need more than 63 bits",
                java.math.BigInteger.valueOf(12532).multiply(java.math.BigInteger.valueOf(31).pow(31)).bitLength() > 63);

        e.sentence(31, "errorCount(0) to errorCount(2), the number of states on the undo stack, time(), R, the minimum size, the "
                + "maximum size, the minimum load, the maximum load, the speed");
        x.setSpeed(99);
        e.due("digest(), 4 states", x.digest(), hash(join(row(2, 1, 0, 4, 0, 5, 7, 77, 9, 19, 99, 0), NO_RANGES_YET,
                NO_SAMPLES, NOTHING_PERFORMED)));
        x.settle(200);
        x.tick();
        e.due("digest(), 4 states and 2 ticks", x.digest(), hash(join(row(2, 1, 0, 4, 2, 5, 7, 77, 9, 19, 99, 0),
                NO_RANGES_YET, NO_SAMPLES, NOTHING_PERFORMED)));
        x.undo();
        x.undo();
        x.undo();
        e.due("digest(), 1 state", x.digest(), hash(join(row(2, 1, 0, 1, 0, 5, 7, 77, 9, 19, 10, 0), NO_RANGES_YET,
                NO_SAMPLES, NOTHING_PERFORMED)));
        x.splitAt(1);
        for (int i = 2; i < 17; i++) {
            x.splitAt(i);
        }
        e.due("errorCount(2)", x.errorCount(2), 1);
        int[] sixteen = new int[16 * 9];
        for (int range = 0; range < 16; range++) {
            sixteen[9 * range] = range;
            java.util.Arrays.fill(sixteen, 9 * range + 4, 9 * range + 9, NONE);
        }
        e.due("digest(), an error of each kind", x.digest(), hash(join(row(2, 1, 1, 4, 0, 5, 7, 77, 9, 19, 10, 0), row(16),
                sixteen, NO_SAMPLES, NOTHING_PERFORMED)));

        e.sentence(31, "rangeCount()");
        e.due("digest(), 16 ranges", x.digest(), hash(join(row(2, 1, 1, 4, 0, 5, 7, 77, 9, 19, 10, 0), row(16), sixteen,
                NO_SAMPLES, NOTHING_PERFORMED)));
        x.undo();
        e.due("digest(), 15 ranges", x.digest(), hash(join(row(2, 1, 1, 3, 0, 5, 7, 77, 9, 19, 10, 0), row(15),
                java.util.Arrays.copyOf(sixteen, 15 * 9), NO_SAMPLES, NOTHING_PERFORMED)));
    }

    private void digestOfNodes() {
        e.sentence(31, "the number of nodes");
        RangeScheduler x = new RangeScheduler();
        int[] nodes = new int[8 * 5];
        for (int node = 0; node < 8; node++) {
            x.addNode(node % 4, node + 9);
            nodes[5 * node] = node % 4;
            nodes[5 * node + 1] = node + 9;
            nodes[5 * node + 2] = 1;
            e.due("digest(), " + (node + 1) + " nodes", x.digest(), hash(join(row(0, 0, 0, Math.min(node + 1, 4), 0),
                    FIRST_SETTINGS, row(node + 1), java.util.Arrays.copyOf(nodes, 5 * node + 5), NO_RANGES_YET, NO_SAMPLES,
                    NOTHING_PERFORMED)));
        }

        e.sentence(31, "for each node its zone, its capacity, 1 if it is up or 0 if it is down, replicas() and leaders()");
        RangeScheduler y = new RangeScheduler();
        y.addNode(3, 16);
        y.addNode(2, 1);
        y.setNode(1, 0);
        y.splitAt(10);
        y.tick();
        y.tick();
        e.due("digest(), node 1 being down", y.digest(), hash(join(row(0, 0, 0, 4, 2), FIRST_SETTINGS, row(2),
                row(3, 16, 1, 2, 2), row(2, 1, 0, 0, 0), row(2), row(0, 0, 0, 1, 0, NONE, NONE, NONE, NONE),
                row(10, 0, 0, 1, 0, NONE, NONE, NONE, NONE), NO_SAMPLES, row(2, 0, 0, 0, 0, 0, 0, 0))));
        y.setNode(1, 1);
        y.tick();
        e.due("digest(), node 1 being up with a learner", y.digest(), hash(join(row(0, 0, 0, 4, 3), FIRST_SETTINGS, row(2),
                row(3, 16, 1, 2, 2), row(2, 1, 1, 1, 0), row(2), row(0, 0, 0, 1, 0, 101, NONE, NONE, NONE),
                row(10, 0, 0, 1, 0, NONE, NONE, NONE, NONE), NO_SAMPLES, row(2, 1, 0, 0, 0, 0, 0, 0))));
    }

    private void digestOfRanges() {
        e.sentence(31, "for each range start(), size(), load(), voters(), leader(), learner(), the node that is to be replaced "
                + "(NONE if there is none), splitKey(range, 0) and splitKey(range, 1)");
        RangeScheduler x = Edges.settled(3, 0, 1, 2);
        x.put(20, 30);
        x.put(30, 30);
        x.access(41);
        x.access(40);
        x.access(5);
        x.splitAt(10);
        x.addNode(3, 16);
        x.setNode(2, 0);
        e.due("tick()", x.tick(), 200);
        e.due("tick()", x.tick(), 201);
        // Range 0 has node 3 for node 2 by now, range 1 is about to get it.
        int[] counts = {0, 0, 0, 4, 6};
        int[] settings = {3, 0, 100, 2, 16, 10};
        int[] nodes = {4, 0, 16, 1, 2, 2, 1, 16, 1, 2, 0, 2, 16, 0, 1, 0, 3, 16, 1, 2, 0};
        int[] first = {0, 0, 1, 11, 0, NONE, NONE, NONE, NONE};
        int[] samples = {3, 41, 40, 5};
        e.due("digest(), a node to be replaced", x.digest(), hash(join(counts, settings, nodes, row(2), first,
                row(10, 60, 2, 7, 0, 703, 2, 30, 41), samples, row(1, 4, 0, 0, 0, 0, 0, 0))));
        x.setNode(3, 0);
        e.due("digest(), the learner being lost, and so the node to be replaced", x.digest(), hash(join(counts, settings,
                row(4, 0, 16, 1, 2, 2, 1, 16, 1, 2, 0, 2, 16, 0, 1, 0, 3, 16, 0, 1, 0), row(2), first,
                row(10, 60, 2, 7, 0, NONE, NONE, 30, 41), samples, row(1, 4, 0, 0, 0, 0, 0, 0))));
        x.setNode(2, 1);
        x.setReplication(4);
        e.due("tick(), a learner in the place of node 3 for range 0", x.tick(), 200);
        e.due("digest(), node 3 to be replaced", x.digest(), hash(join(row(0, 0, 0, 4, 7), row(4, 0, 100, 2, 16, 10),
                row(4, 0, 16, 1, 2, 2, 1, 16, 1, 2, 0, 2, 16, 1, 2, 0, 3, 16, 0, 1, 0), row(2),
                row(0, 0, 1, 11, 0, 102, 3, NONE, NONE), row(10, 60, 2, 7, 0, NONE, NONE, 30, 41), samples,
                row(1, 5, 0, 0, 0, 0, 0, 0))));
    }

    private void digestOfSamples() {
        e.sentence(31, "the number of samples");
        RangeScheduler x = new RangeScheduler();
        x.access(7);
        e.due("digest(), 1 sample", x.digest(), hash(join(row(0, 0, 0, 1, 0), FIRST_SETTINGS, row(0),
                row(1, 0, 0, 1, 0, NONE, NONE, NONE, NONE, NONE), row(1, 7), NOTHING_PERFORMED)));
        x.access(7);
        e.due("digest(), 2 samples", x.digest(), hash(join(row(0, 0, 0, 2, 0), FIRST_SETTINGS, row(0),
                row(1, 0, 0, 2, 0, NONE, NONE, NONE, NONE, NONE), row(2, 7, 7), NOTHING_PERFORMED)));

        e.sentence(31, "each sample from the oldest to the latest");
        RangeScheduler y = new RangeScheduler();
        int[] samples = new int[33];
        samples[0] = 32;
        for (int i = 0; i < 32; i++) {
            y.access(9999 - i);
            samples[i + 1] = 9999 - i;
        }
        e.due("digest(), 32 samples", y.digest(), hash(join(row(0, 0, 0, 4, 0), FIRST_SETTINGS, row(0),
                row(1, 0, 0, 32, 0, NONE, NONE, NONE, NONE, 9984), samples, NOTHING_PERFORMED)));
        y.access(3);
        System.arraycopy(samples, 2, samples, 1, 31);
        samples[32] = 3;
        e.due("digest(), the oldest being dropped", y.digest(), hash(join(row(0, 0, 0, 4, 0), FIRST_SETTINGS, row(0),
                row(1, 0, 0, 32, 0, NONE, NONE, NONE, NONE, 9983), samples, NOTHING_PERFORMED)));
    }

    private void digestOfPerformed() {
        e.sentence(31, "performed(1) to performed(8).");
        RangeScheduler x = Edges.nodes(0);
        x.tick();
        e.due("digest(), CREATE", x.digest(), hash(join(row(0, 0, 0, 2, 1), FIRST_SETTINGS, row(1, 0, 16, 1, 1, 1),
                row(1, 0, 0, 0, 1, 0, NONE, NONE, NONE, NONE), NO_SAMPLES, row(1, 0, 0, 0, 0, 0, 0, 0))));
        x.setReplication(1);
        x.setSizes(0, 100);
        x.splitAt(10);
        x.addNode(0, 16);
        x.tick();
        e.due("digest(), SHIFT_REPLICA", x.digest(), hash(join(row(0, 0, 0, 4, 2), row(1, 0, 100, 2, 16, 10),
                row(2, 0, 16, 1, 2, 2, 0, 16, 1, 1, 0), row(2), row(0, 0, 0, 1, 0, 101, 0, NONE, NONE),
                row(10, 0, 0, 1, 0, NONE, NONE, NONE, NONE), NO_SAMPLES, row(1, 0, 0, 0, 0, 0, 0, 1))));
    }

    /** Not a promise by itself: what all of them say holds up to the last call of an object. */
    private void lastCall() {
        e.sentence(29, "The stack keeps the latest 4 saved states");
        RangeScheduler x = new RangeScheduler();
        for (int call = 1; call < CALLS_OF_AN_OBJECT - 4; call++) {
            x.put(call % 64, 1 + call % 99);
        }
        for (int left = 3; left >= 0; left--) {
            e.due("undo(), near call 512", x.undo(), left);
        }
        e.due("undo(), call 512", x.undo(), REJECTED);
    }
}
