import java.util.function.IntUnaryOperator;

/** Promises 17 to 25: what is asked of ranges. */
final class RangeEdges {
    private static final int NONE = Edges.NONE;
    private static final int INVALID = Edges.INVALID;

    private final Edges e;

    RangeEdges(Edges edges) {
        e = edges;
    }

    void run() {
        rangeCount();
        numbersOfRanges();
        start();
        size();
        load();
        rangeOf();
        voters();
        leader();
        learner();
        isAvailable();
    }

    /** No range has these numbers: neither where there is one range, nor where there are 16. */
    private void refusesOtherRanges(String name, RangeScheduler one, IntUnaryOperator ofOne, RangeScheduler all,
            IntUnaryOperator ofAll) {
        for (int wrong : new int[] {Integer.MIN_VALUE, -1, 1, 15, 16, Integer.MAX_VALUE}) {
            e.refused(one, name + "(" + wrong + "), of one range", () -> ofOne.applyAsInt(wrong), INVALID);
        }
        for (int wrong : new int[] {Integer.MIN_VALUE, -1, 16, Integer.MAX_VALUE}) {
            e.refused(all, name + "(" + wrong + "), of 16 ranges", () -> ofAll.applyAsInt(wrong), INVALID);
        }
    }

    /** 16 ranges with the starts 0, 100, .. 1500 and one voter. */
    private static RangeScheduler sixteen() {
        RangeScheduler x = Edges.settled(1, 0);
        for (int i = 1; i < 16; i++) {
            x.splitAt(100 * i);
        }
        return x;
    }

    private void rangeCount() {
        e.sentence(17, "Returns the number of ranges.");
        RangeScheduler x = Edges.settled(1, 0);
        e.due("rangeCount()", x.rangeCount(), 1);
        x.splitAt(10);
        e.due("rangeCount(), split by hand", x.rangeCount(), 2);
        x.undo();
        e.due("rangeCount(), undone", x.rangeCount(), 1);
        x.put(5, 60);
        x.put(6, 60);
        x.tick();
        e.due("rangeCount(), split by size", x.rangeCount(), 2);
        x.remove(5);
        x.remove(6);
        x.setSizes(20, 100);
        x.tick();
        e.due("rangeCount(), merged", x.rangeCount(), 1);

        e.sentence(17, "Returns 1 to 16.");
        e.due("rangeCount(), of a new one", new RangeScheduler().rangeCount(), 1);
        RangeScheduler y = sixteen();
        e.due("rangeCount()", y.rangeCount(), 16);
        y.splitAt(50);
        e.due("rangeCount(), one more being refused", y.rangeCount(), 16);
        y.setSizes(20, 100);
        e.due("settle(200), 15 merges", y.settle(200), 16);
        e.due("rangeCount(), all being merged", y.rangeCount(), 1);
    }

    private void numbersOfRanges() {
        e.sentence(18, "The ranges are numbered from 0 in the order of their keys");
        RangeScheduler x = new RangeScheduler();
        Edges.split(x, 500, 300, 700, 9999, 1);
        int[] starts = {0, 1, 300, 500, 700, 9999};
        for (int range = 0; range < starts.length; range++) {
            e.due("start(" + range + ")", x.start(range), starts[range]);
        }
        e.refused(x, "start(6)", () -> x.start(6), INVALID);
        // A range with a learner gets other numbers and keeps what it has.
        RangeScheduler z = Edges.settled(3, 0, 1, 2, 3);
        z.splitAt(500);
        z.put(600, 90);
        z.setNode(0, 0);
        z.tick();
        z.tick();
        e.due("learner(1)", z.learner(1), 1003);
        e.due("voters(0)", z.voters(0), 14);
        z.splitAt(100);
        z.splitAt(50);
        e.due("learner(3), of the range that was 1", z.learner(3), 1003);
        e.due("learner(1), of a new range", z.learner(1), NONE);
        e.due("voters(3)", z.voters(3), 7);
        e.due("leader(3)", z.leader(3), 2);
        z.setSizes(20, 100);
        e.due("tick(), which merges", z.tick(), 600);
        e.due("learner(2), of the range that was 3", z.learner(2), 903);
        z.settle(200);
        e.due("voters(1), node 0 being replaced", z.voters(1), 14);

        e.sentence(21, "each range goes from its start to the start of the next range minus 1 (the last one to 9999), and "
                + "range 0 starts at 0.");
        for (int range = 0; range < starts.length; range++) {
            e.due("rangeOf(" + starts[range] + ")", x.rangeOf(starts[range]), range);
            if (range > 0) {
                e.due("rangeOf(" + (starts[range] - 1) + ")", x.rangeOf(starts[range] - 1), range - 1);
            }
        }
        RangeScheduler y = new RangeScheduler();
        y.splitAt(500);
        e.due("rangeOf(9999), in the last one", y.rangeOf(9999), 1);
        e.due("start(0)", y.start(0), 0);
    }

    private void start() {
        e.sentence(18, "Returns the first key of a range.");
        RangeScheduler x = Edges.settled(1, 0);
        Edges.split(x, 10, 20);
        e.due("start(1)", x.start(1), 10);
        x.put(10, 20);
        x.setSizes(20, 100);
        e.due("start(2), which no merge has moved yet", x.start(2), 20);
        x.put(25, 20);
        x.remove(10);
        e.due("tick()", x.tick(), 600);
        e.due("start(0)", x.start(0), 0);
        e.due("start(1), of the range that was 2", x.start(1), 20);

        e.sentence(18, "- `range`: number of an existing range");
        RangeScheduler y = sixteen();
        e.due("start(0)", y.start(0), 0);
        e.due("start(15)", y.start(15), 1500);

        e.sentence(18, "Returns the start");
        for (int range = 0; range < 16; range++) {
            e.due("start(" + range + ")", y.start(range), 100 * range);
        }

        e.sentence(18, "INVALID if there is no such range.");
        RangeScheduler one = new RangeScheduler();
        refusesOtherRanges("start", one, one::start, y, y::start);
    }

    private void size() {
        e.sentence(19, "The size of a range is the sum of the sizes of its items.");
        RangeScheduler x = new RangeScheduler();
        Edges.split(x, 100, 200);
        e.due("size(1), no items", x.size(1), 0);
        x.put(99, 1);
        x.put(100, 2);
        x.put(199, 4);
        x.put(200, 8);
        e.due("size(0), with 99", x.size(0), 1);
        e.due("size(1), with 100 and 199", x.size(1), 6);
        e.due("size(2), with 200", x.size(2), 8);

        e.sentence(19, "Returns the size of a range.");
        x.put(0, 16);
        x.put(9999, 32);
        e.due("size(0), with 0 and 99", x.size(0), 17);
        e.due("size(2), with 200 and 9999", x.size(2), 40);
        x.remove(100);
        e.due("size(1), with 199", x.size(1), 4);

        e.sentence(19, "- `range`: number of an existing range");
        RangeScheduler y = sixteen();
        y.put(99, 5);
        y.put(1500, 6);
        e.due("size(0)", y.size(0), 5);
        e.due("size(15)", y.size(15), 6);

        e.sentence(19, "Returns the size");
        RangeScheduler all = new RangeScheduler();
        for (int i = 0; i < 64; i++) {
            all.put(i, 99);
        }
        e.due("size(0), the greatest", all.size(0), 6336);
        all.splitAt(32);
        e.due("size(0), half of it", all.size(0), 3168);

        e.sentence(19, "INVALID if there is no such range.");
        RangeScheduler one = new RangeScheduler();
        refusesOtherRanges("size", one, one::size, y, y::size);
    }

    private void load() {
        e.sentence(20, "The load of a range is the number of samples whose key belongs to it.");
        RangeScheduler x = new RangeScheduler();
        Edges.split(x, 100, 200);
        e.due("load(1), no samples", x.load(1), 0);
        Edges.accesses(x, 99, 1);
        Edges.accesses(x, 100, 2);
        Edges.accesses(x, 199, 3);
        Edges.accesses(x, 200, 4);
        e.due("load(0), of 99", x.load(0), 1);
        e.due("load(1), of 100 and 199", x.load(1), 5);
        e.due("load(2), of 200", x.load(2), 4);

        e.sentence(20, "Returns the load of a range.");
        x.access(0);
        x.access(9999);
        e.due("load(0), of 0 and 99", x.load(0), 2);
        e.due("load(2), of 200 and 9999", x.load(2), 5);

        e.sentence(20, "- `range`: number of an existing range");
        RangeScheduler y = sixteen();
        y.access(99);
        Edges.accesses(y, 1500, 2);
        e.due("load(0)", y.load(0), 1);
        e.due("load(15)", y.load(15), 2);

        e.sentence(20, "Returns 0 to 32");
        RangeScheduler z = new RangeScheduler();
        e.due("load(0), no access", z.load(0), 0);
        Edges.accesses(z, 7, 31);
        e.due("load(0), 31 accesses", z.load(0), 31);
        z.access(7);
        e.due("load(0), 32 accesses", z.load(0), 32);
        z.access(7);
        e.due("load(0), 33 accesses", z.load(0), 32);

        e.sentence(20, "INVALID if there is no such range.");
        RangeScheduler one = new RangeScheduler();
        refusesOtherRanges("load", one, one::load, y, y::load);
    }

    private void rangeOf() {
        e.sentence(21, "- `key`: 0 to 9999");
        RangeScheduler x = sixteen();
        e.due("rangeOf(0)", x.rangeOf(0), 0);
        e.due("rangeOf(9999)", x.rangeOf(9999), 15);

        e.sentence(21, "INVALID if key is out of range.");
        for (int wrong : new int[] {Integer.MIN_VALUE, -1, 10000, Integer.MAX_VALUE}) {
            e.refused(x, "rangeOf(" + wrong + ")", () -> x.rangeOf(wrong), INVALID);
        }
        e.due("rangeOf(1)", x.rangeOf(1), 0);

        e.sentence(21, "Returns the range of a key.");
        e.due("rangeOf(99)", x.rangeOf(99), 0);
        e.due("rangeOf(100)", x.rangeOf(100), 1);
        e.due("rangeOf(101)", x.rangeOf(101), 1);

        e.sentence(21, "Returns the number of the range");
        e.due("rangeOf(1499)", x.rangeOf(1499), 14);
        e.due("rangeOf(1500)", x.rangeOf(1500), 15);
    }

    private void voters() {
        e.sentence(22, "Returns the voters of a range.");
        RangeScheduler x = Edges.nodes(0, 1);
        x.put(5, 10);
        e.due("voters(0), none", x.voters(0), 0);
        x.tick();
        e.due("voters(0), one", x.voters(0), 1);
        x.tick();
        e.due("voters(0), the learner being none", x.voters(0), 1);
        x.settle(9);
        e.due("voters(0), two", x.voters(0), 3);

        e.sentence(22, "Returns a bit mask of nodes");
        RangeScheduler y = Edges.nodes(0, 0, 0, 0, 0, 0, 0, 0);
        for (int node = 0; node < 7; node++) {
            y.setNode(node, 0);
        }
        y.tick();
        e.due("voters(0), the last node", y.voters(0), 128);
        y.setNode(0, 1);
        y.setReplication(2);
        y.settle(9);
        e.due("voters(0), the first and the last", y.voters(0), 129);
        y.setNode(7, 0);
        e.due("voters(0), one of them being down", y.voters(0), 129);
        RangeScheduler five = Edges.settled(5, 0, 1, 2, 3, 0, 1, 2, 3);
        e.due("voters(0), five", five.voters(0), 31);

        e.sentence(22, "- `range`: number of an existing range");
        RangeScheduler z = sixteen();
        e.due("voters(0)", z.voters(0), 1);
        e.due("voters(15)", z.voters(15), 1);

        e.sentence(22, "INVALID if there is no such range.");
        RangeScheduler one = new RangeScheduler();
        refusesOtherRanges("voters", one, one::voters, z, z::voters);
    }

    private void leader() {
        e.sentence(23, "Returns the leader of a range.");
        RangeScheduler x = Edges.settled(3, 0, 1, 2);
        e.due("leader(0)", x.leader(0), 0);
        x.setNode(0, 0);
        e.due("leader(0), 0 being down", x.leader(0), 1);

        e.sentence(23, "Returns the node");
        x.setNode(0, 1);
        x.setNode(1, 0);
        e.due("leader(0), 1 being down", x.leader(0), 0);
        x.setNode(1, 1);
        e.due("leader(0), 1 being up", x.leader(0), 0);

        e.sentence(23, "NONE if there is no leader");
        e.due("leader(0), without voters", new RangeScheduler().leader(0), NONE);
        x.setNode(2, 0);
        e.due("leader(0), 2 of 3 being up", x.leader(0), 0);
        x.setNode(0, 0);
        e.due("leader(0), 1 of 3 being up", x.leader(0), NONE);
        e.due("errorCount(0)", x.errorCount(0), 0);

        e.sentence(23, "- `range`: number of an existing range");
        RangeScheduler y = sixteen();
        e.due("leader(0)", y.leader(0), 0);
        e.due("leader(15)", y.leader(15), 0);

        e.sentence(23, "INVALID if there is no such range.");
        RangeScheduler one = new RangeScheduler();
        refusesOtherRanges("leader", one, one::leader, y, y::leader);
    }

    private void learner() {
        e.sentence(24, "Returns the learner of a range.");
        RangeScheduler x = Edges.settled(1, 0);
        x.addNode(1, 16);
        x.splitAt(10);
        x.put(5, 10);
        x.setReplication(2);
        x.tick();
        e.due("learner(0)", x.learner(0), 201);
        e.due("learner(1), of the range beside it", x.learner(1), NONE);

        e.sentence(24, "Returns 100 * remaining ticks + node");
        x.tick();
        e.due("learner(0)", x.learner(0), 101);
        e.due("learner(1)", x.learner(1), 101);
        RangeScheduler big = Edges.nodes(0, 0, 0, 0, 0, 0, 0, 1);
        big.setSpeed(1);
        big.setSizes(0, 9999);
        for (int i = 0; i < 64; i++) {
            big.put(i, 99);
        }
        big.tick();
        big.tick();
        e.due("learner(0), the most ticks and the last node", big.learner(0), 633707);
        big.tick();
        e.due("learner(0), a tick later", big.learner(0), 633607);

        e.sentence(24, "NONE if there is no learner");
        e.due("learner(0), without voters", new RangeScheduler().learner(0), NONE);
        x.tick();
        e.due("learner(0), it has become a voter", x.learner(0), NONE);
        e.due("errorCount(0)", x.errorCount(0), 0);

        e.sentence(24, "- `range`: number of an existing range");
        RangeScheduler y = sixteen();
        y.addNode(0, 16);
        y.put(0, 50);
        y.tick();
        e.due("learner(0)", y.learner(0), 601);
        e.due("learner(15)", y.learner(15), NONE);

        e.sentence(24, "INVALID if there is no such range.");
        RangeScheduler one = new RangeScheduler();
        refusesOtherRanges("learner", one, one::learner, y, y::learner);
    }

    private void isAvailable() {
        e.sentence(25, "Tells whether a range is available.");
        RangeScheduler x = Edges.nodes(0, 0);
        x.setReplication(1);
        x.splitAt(10);
        x.tick();
        e.due("isAvailable(0)", x.isAvailable(0), 1);
        e.due("isAvailable(1), without voters", x.isAvailable(1), 0);

        e.sentence(25, "Returns 1 if it is, otherwise 0");
        x.tick();
        x.setNode(0, 0);
        e.due("isAvailable(0), its node being down", x.isAvailable(0), 0);
        e.due("isAvailable(1), its node being up", x.isAvailable(1), 1);

        e.sentence(25, "- `range`: number of an existing range");
        RangeScheduler y = sixteen();
        e.due("isAvailable(0)", y.isAvailable(0), 1);
        e.due("isAvailable(15)", y.isAvailable(15), 1);

        e.sentence(25, "INVALID if there is no such range.");
        RangeScheduler one = new RangeScheduler();
        refusesOtherRanges("isAvailable", one, one::isAvailable, y, y::isAvailable);
    }
}
