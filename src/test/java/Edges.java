import java.util.function.IntSupplier;

/** Checks of which each belongs to a sentence of the document, quoted for a promise. */
final class Edges {
    static final int NONE = -1;
    static final int INVALID = -2;
    static final int REJECTED = -3;
    static final int FULL = -4;
    /** Every digest has at least 31 values, and at most 31 + 8 * 5 + 15 * 9 + 32. */
    private static final int MOST_VALUES = 238;

    private final Checks checks = new Checks();
    private final Document document;
    private String label;
    private int checksOfSentence = 2;

    Edges(Document document) {
        this.document = document;
    }

    /** Begins the test of a sentence: the checks up to the next one are of this one. */
    void sentence(int promise, String quote) {
        endSentence();
        label = "promise " + promise + ", \"" + quote + "\": ";
        checks.isTrue(label + "the document says so", document.quote(promise, quote));
        checksOfSentence = 0;
    }

    private void endSentence() {
        checks.isTrue(label + "the case itself and the one beside it are tested", checksOfSentence >= 2);
    }

    void due(String call, long got, long want) {
        checksOfSentence++;
        checks.due(label + call, got, want);
    }

    void isTrue(String what, boolean holds) {
        checksOfSentence++;
        checks.isTrue(label + what, holds);
    }

    /**
     * A call that fails: it answers its error and changes nothing but the counter of that error.
     * There are at most 3 states on the stack then and after it.
     */
    void refused(RangeScheduler x, String call, IntSupplier made, int error) {
        leaveRoom(x);
        int[] counts = {x.errorCount(0), x.errorCount(1), x.errorCount(2)};
        long before = x.digest();
        due(call, made.getAsInt(), error);
        long after = x.digest();
        for (int kind = 0; kind < 3; kind++) {
            int grown = kind == INVALID - error ? 1 : 0;
            checks.due(label + "errorCount(" + kind + ") after " + call, x.errorCount(kind), counts[kind] + grown);
        }
        checks.isTrue(label + call + " changes nothing but a counter", isPowerOf31(after - before));
    }

    /** Leaves at most 3 states on the stack, so that a further one is seen; returns how many. */
    private static int leaveRoom(RangeScheduler x) {
        x.tick();
        return x.undo();
    }

    /** A counter that grows by 1 lets the digest grow by 31 to the number of the values behind it. */
    private static boolean isPowerOf31(long number) {
        long power = 1;
        for (int exponent = 0; exponent < MOST_VALUES; exponent++) {
            if (power == number) {
                return true;
            }
            power *= 31;
        }
        return false;
    }

    /** A call that succeeds: undo finds one state more than before it, and restores all there was. */
    void saves(RangeScheduler x, String call, IntSupplier made, int answer) {
        int states = leaveRoom(x);
        long before = x.digest();
        due(call, made.getAsInt(), answer);
        due("undo() after " + call, x.undo(), states);
        due("digest() after " + call + " and undo()", x.digest(), before);
    }

    /** To be called behind the last sentence. */
    void end() {
        endSentence();
        label = "";
        for (Document.Sentence sentence : document.sentences) {
            checks.isTrue("section " + sentence.section + " has a test that quotes: " + sentence.text, sentence.quoted);
        }
        checks.end();
    }

    // ---- clusters to begin with

    /** Nodes of capacity 16 in these zones; no tick yet. */
    static RangeScheduler nodes(int... zones) {
        RangeScheduler x = new RangeScheduler();
        for (int zone : zones) {
            x.addNode(zone, 16);
        }
        return x;
    }

    /** One range that has as many voters as it can get, led by the lowest; no ranges are merged. */
    static RangeScheduler settled(int replication, int... zones) {
        RangeScheduler x = nodes(zones);
        x.setReplication(replication);
        x.setSizes(0, 100);
        x.settle(200);
        return x;
    }

    static void split(RangeScheduler x, int... keys) {
        for (int key : keys) {
            x.splitAt(key);
        }
    }

    /** So many accesses of one key. */
    static void accesses(RangeScheduler x, int key, int times) {
        for (int i = 0; i < times; i++) {
            x.access(key);
        }
    }
}
