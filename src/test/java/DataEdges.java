/** Promises 8 to 12: items, accesses and splits by hand. */
final class DataEdges {
    private static final int NONE = Edges.NONE;
    private static final int INVALID = Edges.INVALID;
    private static final int REJECTED = Edges.REJECTED;
    private static final int FULL = Edges.FULL;
    private static final int[] NO_KEYS = {Integer.MIN_VALUE, -1, 10000, Integer.MAX_VALUE};

    private final Edges e;

    DataEdges(Edges edges) {
        e = edges;
    }

    void run() {
        keys();
        itemCount();
        put();
        remove();
        removeFromAFullStore();
        access();
        samples();
        splitAtKeys();
        splitAtStart();
        splitAtLearner();
        splitAtSixteen();
        sizeOf();
    }

    private void keys() {
        e.sentence(8, "Keys are the integers from 0 to 9999.");
        RangeScheduler x = new RangeScheduler();
        e.due("put(0, 1)", x.put(0, 1), 0);
        e.due("put(9999, 2)", x.put(9999, 2), 0);
        e.due("access(0)", x.access(0), NONE);
        e.due("access(9999)", x.access(9999), NONE);
        e.due("size(0)", x.size(0), 3);
        e.due("load(0)", x.load(0), 2);
        e.refused(x, "put(-1, 1)", () -> x.put(-1, 1), INVALID);
        e.refused(x, "put(10000, 1)", () -> x.put(10000, 1), INVALID);

        e.sentence(8, "- `key`: 0 to 9999");
        e.due("put(0, 5)", x.put(0, 5), 1);
        e.due("put(9999, 6)", x.put(9999, 6), 2);
        for (int wrong : NO_KEYS) {
            e.refused(x, "put(" + wrong + ", 5)", () -> x.put(wrong, 5), INVALID);
        }

        e.sentence(8, "- `size`: 1 to 99");
        e.due("put(7, 1)", x.put(7, 1), 0);
        e.due("put(7, 99)", x.put(7, 99), 1);
        for (int wrong : new int[] {Integer.MIN_VALUE, -1, 0, 100, Integer.MAX_VALUE}) {
            e.refused(x, "put(7, " + wrong + ")", () -> x.put(7, wrong), INVALID);
        }
        e.due("sizeOf(7)", x.sizeOf(7), 99);

        e.sentence(8, "INVALID if an argument is out of range");
        e.refused(x, "put(-1, 0)", () -> x.put(-1, 0), INVALID);
        e.refused(x, "put(10000, 100)", () -> x.put(10000, 100), INVALID);
        e.due("put(9998, 98)", x.put(9998, 98), 0);
    }

    /** Items at 0, 100, .. 6300, each of size 2. */
    private static RangeScheduler withItems(int count) {
        RangeScheduler x = new RangeScheduler();
        for (int i = 0; i < count; i++) {
            x.put(100 * i, 2);
        }
        return x;
    }

    private void itemCount() {
        e.sentence(8, "At most 64 keys have an item, which has a size from 1 to 99.");
        RangeScheduler x = withItems(63);
        e.due("put(6300, 99), the 64th", x.put(6300, 99), 0);
        e.due("size(0)", x.size(0), 63 * 2 + 99);
        e.refused(x, "put(6400, 1), the 65th", () -> x.put(6400, 1), FULL);
        e.due("size(0)", x.size(0), 63 * 2 + 99);

        e.sentence(8, "FULL if there are 64 items, none of them with this key.");
        for (int key : new int[] {1, 3333, 9999}) {
            e.refused(x, "put(" + key + ", 1)", () -> x.put(key, 1), FULL);
            e.due("sizeOf(" + key + ")", x.sizeOf(key), 0);
        }
        for (int key : new int[] {0, 3300, 6300}) {
            e.due("put(" + key + ", 7), which has an item", x.put(key, 7), key == 6300 ? 99 : 2);
        }
        e.refused(x, "put(1, 0), size and number being wrong", () -> x.put(1, 0), INVALID);
        e.refused(x, "put(-1, 1), key and number being wrong", () -> x.put(-1, 1), INVALID);
    }

    private void put() {
        e.sentence(8, "Stores an item");
        RangeScheduler x = new RangeScheduler();
        e.due("sizeOf(50)", x.sizeOf(50), 0);
        x.put(50, 3);
        x.put(40, 4);
        x.put(60, 5);
        e.due("sizeOf(50)", x.sizeOf(50), 3);
        e.due("sizeOf(40), below the others", x.sizeOf(40), 4);
        e.due("sizeOf(60), above the others", x.sizeOf(60), 5);
        e.due("sizeOf(49), beside it", x.sizeOf(49), 0);

        e.sentence(8, "an item with the same key is replaced.");
        x.put(50, 9);
        e.due("sizeOf(50)", x.sizeOf(50), 9);
        e.due("size(0), with one item of this key", x.size(0), 18);
        x.put(51, 1);
        e.due("sizeOf(50), another key being put", x.sizeOf(50), 9);
        e.due("size(0)", x.size(0), 19);

        e.sentence(8, "Returns the size of the previous item with this key, 0 if there was none");
        e.due("put(70, 8)", x.put(70, 8), 0);
        e.due("put(70, 6)", x.put(70, 6), 8);
        x.remove(70);
        e.due("put(70, 6), removed before", x.put(70, 6), 0);

        e.sentence(8, "Undoable.");
        e.saves(x, "put(80, 1)", () -> x.put(80, 1), 0);
        e.due("sizeOf(80) after it is taken back", x.sizeOf(80), 0);
        e.saves(x, "put(70, 1)", () -> x.put(70, 1), 6);
        e.due("sizeOf(70) after it is taken back", x.sizeOf(70), 6);
        e.saves(x, "put(70, 6), which changes nothing", () -> x.put(70, 6), 6);
        e.due("sizeOf(70) after it is taken back", x.sizeOf(70), 6);
    }

    private void remove() {
        e.sentence(9, "- `key`: 0 to 9999");
        RangeScheduler x = new RangeScheduler();
        x.put(0, 1);
        x.put(9999, 2);
        e.due("remove(0)", x.remove(0), 1);
        e.due("remove(9999)", x.remove(9999), 2);

        e.sentence(9, "INVALID if key is out of range");
        for (int wrong : NO_KEYS) {
            e.refused(x, "remove(" + wrong + ")", () -> x.remove(wrong), INVALID);
        }
        x.put(9999, 4);
        e.due("remove(9999)", x.remove(9999), 4);

        e.sentence(9, "REJECTED if there is no item with this key.");
        e.refused(x, "remove(0), without items", () -> x.remove(0), REJECTED);
        x.put(50, 3);
        e.refused(x, "remove(49)", () -> x.remove(49), REJECTED);
        e.refused(x, "remove(51)", () -> x.remove(51), REJECTED);
        e.due("remove(50)", x.remove(50), 3);
        e.refused(x, "remove(50), again", () -> x.remove(50), REJECTED);

        e.sentence(9, "Returns its size");
        x.put(60, 99);
        x.put(61, 1);
        e.due("remove(60)", x.remove(60), 99);
        e.due("remove(61)", x.remove(61), 1);

        e.sentence(9, "Undoable.");
        x.put(70, 5);
        e.saves(x, "remove(70)", () -> x.remove(70), 5);
        e.due("sizeOf(70) after it is taken back", x.sizeOf(70), 5);
    }

    private void removeFromAFullStore() {
        e.sentence(9, "Removes an item.");
        for (int key : new int[] {0, 3300, 6300}) {
            RangeScheduler x = withItems(64);
            e.refused(x, "put(9999, 3), the 65th", () -> x.put(9999, 3), FULL);
            e.due("remove(" + key + ")", x.remove(key), 2);
            e.due("sizeOf(" + key + ")", x.sizeOf(key), 0);
            e.due("size(0)", x.size(0), 63 * 2);
            e.due("put(9999, 3), the 64th", x.put(9999, 3), 0);
            e.refused(x, "put(" + key + ", 1), the 65th", () -> x.put(key, 1), FULL);
            e.due("size(0)", x.size(0), 63 * 2 + 3);
        }
    }

    private void access() {
        e.sentence(10, "- `key`: 0 to 9999");
        RangeScheduler x = Edges.settled(1, 0);
        e.due("access(0)", x.access(0), 0);
        e.due("access(9999)", x.access(9999), 0);
        e.due("load(0)", x.load(0), 2);

        e.sentence(10, "INVALID if key is out of range.");
        for (int wrong : NO_KEYS) {
            e.refused(x, "access(" + wrong + ")", () -> x.access(wrong), INVALID);
        }
        e.due("load(0)", x.load(0), 2);

        e.sentence(10, "Accesses a key, whether it has an item or not");
        x.put(50, 5);
        e.due("access(50), with an item", x.access(50), 0);
        e.due("load(0)", x.load(0), 3);
        e.due("access(51), without one", x.access(51), 0);
        e.due("load(0)", x.load(0), 4);
        e.due("sizeOf(51)", x.sizeOf(51), 0);

        e.sentence(10, "the key becomes the latest sample, even if the range is not available.");
        x.setNode(0, 0);
        e.due("access(52), not available", x.access(52), NONE);
        e.due("load(0)", x.load(0), 5);
        e.due("splitKey(0, 1), half of 0, 50, 51, 52, 9999 below", x.splitKey(0, 1), 52);
        x.setNode(0, 1);
        e.due("access(52), available", x.access(52), 0);
        e.due("load(0)", x.load(0), 6);

        e.sentence(10, "Returns the leader of the range of the key, or NONE if it has no leader");
        RangeScheduler y = Edges.nodes(0, 0);
        y.setReplication(1);
        Edges.split(y, 5000, 6000);
        y.tick();
        y.tick();
        e.due("access(4999)", y.access(4999), 0);
        e.due("access(5000)", y.access(5000), 1);
        e.due("access(5999)", y.access(5999), 1);
        e.due("access(6000), without voters", y.access(6000), NONE);
        y.setNode(1, 0);
        e.due("access(5000), whose node is down", y.access(5000), NONE);
        e.due("access(4999), whose node is up", y.access(4999), 0);

        e.sentence(10, "Undoable.");
        e.saves(y, "access(5)", () -> y.access(5), 0);
        e.saves(y, "access(7000), without a leader", () -> y.access(7000), NONE);
        e.due("load(2) after it is taken back", y.load(2), 1);
    }

    private void samples() {
        e.sentence(10, "The latest 32 accesses are kept as samples (the oldest one is dropped when there are more).");
        RangeScheduler x = new RangeScheduler();
        x.splitAt(5000);
        x.access(6000);
        x.access(7000);
        Edges.accesses(x, 1, 30);
        e.due("load(1), 32 accesses", x.load(1), 2);
        e.due("load(0), 32 accesses", x.load(0), 30);
        x.access(8000);
        e.due("load(1), the 33rd drops 6000", x.load(1), 2);
        e.due("splitKey(1, 1)", x.splitKey(1, 1), 8000);
        x.access(2);
        e.due("load(1), the 34th drops 7000", x.load(1), 1);
        e.due("load(0), the 34th drops 7000", x.load(0), 31);
        Edges.accesses(x, 1, 30);
        e.due("load(1), 8000 is the oldest", x.load(1), 1);
        Edges.accesses(x, 1, 1);
        e.due("load(1), 8000 is dropped", x.load(1), 0);
        e.due("load(0)", x.load(0), 32);
        // Each undo brings the dropped sample back to its place.
        e.due("undo()", x.undo(), 3);
        e.due("load(1)", x.load(1), 1);
        e.due("access(1)", x.access(1), NONE);
        e.due("load(1)", x.load(1), 0);
    }

    private void splitAtKeys() {
        e.sentence(11, "- `key`: 0 to 9999");
        RangeScheduler x = Edges.settled(2, 0, 1);
        e.due("splitAt(9999)", x.splitAt(9999), 1);
        e.due("splitAt(1)", x.splitAt(1), 1);
        e.due("rangeCount()", x.rangeCount(), 3);

        e.sentence(11, "INVALID if key is out of range");
        for (int wrong : NO_KEYS) {
            e.refused(x, "splitAt(" + wrong + ")", () -> x.splitAt(wrong), INVALID);
        }
        e.due("splitAt(9998)", x.splitAt(9998), 2);

        e.sentence(11, "Splits the range of a key at this key.");
        RangeScheduler y = Edges.settled(2, 0, 1);
        y.put(499, 3);
        y.put(500, 4);
        y.access(499);
        y.access(500);
        y.splitAt(500);
        e.due("start(1)", y.start(1), 500);
        e.due("rangeOf(499)", y.rangeOf(499), 0);
        e.due("rangeOf(500)", y.rangeOf(500), 1);
        e.due("size(0)", y.size(0), 3);
        e.due("size(1)", y.size(1), 4);
        e.due("load(0)", y.load(0), 1);
        e.due("load(1)", y.load(1), 1);

        e.sentence(11, "Returns the number of the new range");
        e.due("splitAt(900), in the last range", y.splitAt(900), 2);
        e.due("splitAt(100), in the first range", y.splitAt(100), 1);
        e.due("splitAt(700), in between", y.splitAt(700), 3);
        int[] starts = {0, 100, 500, 700, 900};
        for (int range = 0; range < 5; range++) {
            e.due("start(" + range + ")", y.start(range), starts[range]);
        }

        e.sentence(11, "Undoable.");
        e.saves(y, "splitAt(300)", () -> y.splitAt(300), 2);
        e.due("rangeCount() after it is taken back", y.rangeCount(), 5);
        e.due("start(2) after it is taken back", y.start(2), 500);
    }

    private void splitAtStart() {
        e.sentence(11, "REJECTED if the key is the start of its range or the range has a learner");
        RangeScheduler x = new RangeScheduler();
        e.refused(x, "splitAt(0), the start of the first", () -> x.splitAt(0), REJECTED);
        e.due("splitAt(1)", x.splitAt(1), 1);
        e.refused(x, "splitAt(1), a start now", () -> x.splitAt(1), REJECTED);
        e.due("splitAt(9999)", x.splitAt(9999), 2);
        e.refused(x, "splitAt(9999), a start now", () -> x.splitAt(9999), REJECTED);
        e.due("splitAt(2), beside a start", x.splitAt(2), 2);
        e.due("splitAt(9998), beside a start", x.splitAt(9998), 3);
    }

    private void splitAtLearner() {
        e.sentence(11, "or the range has a learner");
        RangeScheduler x = Edges.settled(1, 0);
        x.splitAt(100);
        x.addNode(1, 16);
        x.put(5, 10);
        x.setReplication(2);
        x.tick();
        e.due("learner(0)", x.learner(0), 201);
        e.refused(x, "splitAt(50), in a range with a learner", () -> x.splitAt(50), REJECTED);
        e.refused(x, "splitAt(99), in a range with a learner", () -> x.splitAt(99), REJECTED);
        e.due("splitAt(101), in the next range", x.splitAt(101), 2);
        x.setNode(1, 0);
        e.due("splitAt(50), the learner being lost", x.splitAt(50), 1);
    }

    private void splitAtSixteen() {
        e.sentence(11, "FULL if there are 16 ranges.");
        RangeScheduler x = Edges.settled(1, 0);
        for (int i = 1; i < 15; i++) {
            x.splitAt(100 * i);
        }
        e.due("rangeCount()", x.rangeCount(), 15);
        e.due("splitAt(1500), the 16th", x.splitAt(1500), 15);
        for (int key : new int[] {50, 1450, 1501, 9999}) {
            e.refused(x, "splitAt(" + key + "), the 17th", () -> x.splitAt(key), FULL);
        }
        e.refused(x, "splitAt(0), a start, with 16 ranges", () -> x.splitAt(0), REJECTED);
        e.refused(x, "splitAt(1500), a start, with 16 ranges", () -> x.splitAt(1500), REJECTED);
        e.refused(x, "splitAt(10000), with 16 ranges", () -> x.splitAt(10000), INVALID);
        x.addNode(0, 16);
        x.put(5, 50);
        x.setReplication(2);
        x.tick();
        e.refused(x, "splitAt(50), a learner, with 16 ranges", () -> x.splitAt(50), REJECTED);
        e.refused(x, "splitAt(150), no learner, with 16 ranges", () -> x.splitAt(150), FULL);

        e.sentence(11, "The keys are divided into ranges, at most 16.");
        RangeScheduler y = Edges.settled(1, 0);
        for (int i = 1; i < 16; i++) {
            y.splitAt(i);
        }
        e.due("rangeCount()", y.rangeCount(), 16);
        e.refused(y, "splitAt(16)", () -> y.splitAt(16), FULL);
        y.setSizes(20, 100);
        e.due("tick(), which merges", y.tick(), 600);
        e.due("splitAt(16), the 16th again", y.splitAt(16), 15);
        e.refused(y, "splitAt(17)", () -> y.splitAt(17), FULL);
    }

    private void sizeOf() {
        e.sentence(12, "- `key`: 0 to 9999");
        RangeScheduler x = new RangeScheduler();
        x.put(0, 1);
        x.put(9999, 99);
        e.due("sizeOf(0)", x.sizeOf(0), 1);
        e.due("sizeOf(9999)", x.sizeOf(9999), 99);

        e.sentence(12, "INVALID if key is out of range.");
        for (int wrong : NO_KEYS) {
            e.refused(x, "sizeOf(" + wrong + ")", () -> x.sizeOf(wrong), INVALID);
        }
        e.due("sizeOf(1)", x.sizeOf(1), 0);

        e.sentence(12, "Returns the size of an item.");
        x.put(50, 7);
        e.due("sizeOf(50)", x.sizeOf(50), 7);
        x.put(50, 8);
        e.due("sizeOf(50), replaced", x.sizeOf(50), 8);

        e.sentence(12, "Returns the size, 0 if there is no item with this key");
        e.due("sizeOf(50)", x.sizeOf(50), 8);
        e.due("sizeOf(49)", x.sizeOf(49), 0);
        e.due("sizeOf(51)", x.sizeOf(51), 0);
        x.remove(50);
        e.due("sizeOf(50), removed", x.sizeOf(50), 0);
        x.access(51);
        e.due("sizeOf(51), accessed", x.sizeOf(51), 0);
    }
}
