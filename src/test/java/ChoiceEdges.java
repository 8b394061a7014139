/** Promises 13 and 26: which node is chosen, and where a range is split. */
final class ChoiceEdges {
    private static final int NONE = Edges.NONE;
    private static final int INVALID = Edges.INVALID;

    private final Edges e;

    ChoiceEdges(Edges edges) {
        e = edges;
    }

    void run() {
        candidates();
        fullCandidates();
        fresh();
        freshBesideTheReplaced();
        freshFirst();
        fewestReplicas();
        lowestNumber();
        noCandidate();
        sizeSplitKeyAtHalf();
        sizeSplitKeyAtTheEnd();
        sizeSplitKeyOfFewItems();
        loadSplitKeyAtHalf();
        loadSplitKeyAtTheEnd();
        loadSplitKeyOfFewSamples();
        splitKeyArguments();
    }

    private void candidates() {
        e.sentence(13, "the candidates are the nodes that are up, not full, and neither voters nor the learner of the range.");
        RangeScheduler x = Edges.nodes(0, 1, 2);
        x.setNode(0, 0);
        x.tick();
        e.due("voters(0), node 0 being down", x.voters(0), 2);
        x.setNode(0, 1);
        x.tick();
        e.due("learner(0), node 0 being up and node 1 a voter", x.learner(0), 100);
        x.tick();
        e.due("learner(0), nodes 0 and 1 being voters", x.learner(0), 102);
        x.setReplication(5);
        x.tick();
        e.due("voters(0), all nodes", x.voters(0), 7);
        e.due("learner(0), no node being left", x.learner(0), NONE);
    }

    private void fullCandidates() {
        e.sentence(13, "not full");
        RangeScheduler x = new RangeScheduler();
        x.addNode(0, 1);
        x.addNode(0, 2);
        x.setReplication(1);
        x.setSizes(0, 100);
        Edges.split(x, 10, 20, 30);
        x.tick();
        x.tick();
        e.due("voters(1), on the node with fewer replicas", x.voters(1), 2);
        e.due("tick(), node 0 being full", x.tick(), 102);
        e.due("voters(2), on the node that has room", x.voters(2), 2);
        e.due("tick(), both being full", x.tick(), 0);
        e.due("voters(3)", x.voters(3), 0);
    }

    private void fresh() {
        e.sentence(13, "A candidate is fresh if its zone is not the zone of any voter of the range other than v.");
        RangeScheduler x = Edges.settled(2, 0, 1);
        x.addNode(1, 16);
        x.addNode(0, 16);
        x.addNode(2, 16);
        x.setReplication(3);
        x.tick();
        e.due("learner(0), 2 being in the zone of 1, 3 in that of 0, 4 in no voter's", x.learner(0), 104);
        RangeScheduler y = Edges.settled(2, 0, 1);
        y.addNode(1, 16);
        y.addNode(0, 16);
        y.setReplication(3);
        y.tick();
        e.due("learner(0), neither being fresh", y.learner(0), 102);
    }

    private void freshBesideTheReplaced() {
        e.sentence(13, "any voter of the range other than v");
        RangeScheduler x = Edges.settled(3, 0, 1, 2);
        x.addNode(0, 16);
        x.addNode(1, 16);
        x.setNode(1, 0);
        x.tick();
        e.due("learner(0), in the zone of the replaced node 1", x.learner(0), 104);
        RangeScheduler y = Edges.settled(3, 0, 1, 2);
        y.addNode(0, 16);
        y.addNode(1, 16);
        y.setNode(0, 0);
        y.tick();
        e.due("learner(0), in the zone of the replaced node 0", y.learner(0), 103);
        // The zone of v is not fresh if another voter is in it, too.
        RangeScheduler z = Edges.settled(3, 0, 1, 1);
        z.addNode(1, 16);
        z.addNode(2, 16);
        z.setNode(1, 0);
        z.tick();
        e.due("learner(0), node 3 being in the zone of node 2", z.learner(0), 104);
        // A voter that is down counts unless it is v itself.
        RangeScheduler w = Edges.settled(5, 0, 1, 2, 3, 3);
        w.addNode(1, 16);
        w.addNode(0, 16);
        w.setNode(0, 0);
        w.setNode(1, 0);
        w.tick();
        e.due("learner(0), node 5 being in the zone of node 1", w.learner(0), 106);
    }

    private void freshFirst() {
        e.sentence(13, "Fresh candidates are preferred to others");
        // Node 1 has two replicas of other ranges, node 2 none, but node 2 is in the zone of the voter.
        RangeScheduler x = Edges.nodes(0, 1, 0);
        x.setReplication(1);
        x.setSizes(0, 100);
        Edges.split(x, 10);
        x.setNode(2, 0);
        x.tick();
        x.tick();
        e.due("voters(1)", x.voters(1), 2);
        x.splitAt(20);
        e.due("replicas(1)", x.replicas(1), 2);
        x.setNode(2, 1);
        x.setReplication(2);
        e.due("tick()", x.tick(), 200);
        e.due("learner(0), fresh with more replicas", x.learner(0), 101);
        // Even with 15 replicas, the most that a node can have beside this range.
        RangeScheduler most = Edges.nodes(0, 0, 1);
        most.setReplication(1);
        most.setSizes(0, 100);
        most.setNode(1, 0);
        most.splitAt(10);
        most.tick();
        most.tick();
        for (int i = 1; i < 15; i++) {
            most.splitAt(10 + i);
        }
        e.due("replicas(2)", most.replicas(2), 15);
        most.setNode(1, 1);
        most.setReplication(2);
        e.due("tick()", most.tick(), 200);
        e.due("learner(0), fresh with 15 replicas", most.learner(0), 102);
        RangeScheduler y = Edges.nodes(0, 0, 0);
        y.setReplication(1);
        y.setSizes(0, 100);
        Edges.split(y, 10);
        y.setNode(2, 0);
        y.tick();
        y.tick();
        y.setNode(2, 1);
        y.setReplication(2);
        e.due("tick()", y.tick(), 200);
        e.due("learner(0), none being fresh, with fewer replicas", y.learner(0), 102);
    }

    private void fewestReplicas() {
        e.sentence(13, "then the candidate with the fewest replicas is preferred");
        RangeScheduler x = Edges.nodes(0, 0, 0);
        x.setReplication(1);
        x.setSizes(0, 100);
        Edges.split(x, 10, 20, 30);
        x.tick();
        e.due("voters(0), all having none", x.voters(0), 1);
        x.tick();
        e.due("voters(1), node 0 having one", x.voters(1), 2);
        x.tick();
        e.due("voters(2), nodes 0 and 1 having one", x.voters(2), 4);
        x.tick();
        e.due("voters(3), all having one", x.voters(3), 1);
        // A node that is fuller in proportion but has fewer replicas is preferred.
        RangeScheduler y = Edges.nodes(0);
        y.setReplication(1);
        y.setSizes(0, 100);
        Edges.split(y, 10, 20, 30);
        y.tick();
        y.tick();
        y.addNode(0, 2);
        y.tick();
        e.due("voters(2), 0 replicas rather than 2", y.voters(2), 2);
        y.tick();
        e.due("voters(3), 1 of 2 rather than 2 of 16", y.voters(3), 2);
    }

    private void lowestNumber() {
        e.sentence(13, "then the one with the lowest number.");
        RangeScheduler x = Edges.nodes(3, 2, 1, 0);
        x.tick();
        e.due("voters(0), all being alike", x.voters(0), 1);
        x.tick();
        e.due("learner(0), three being fresh", x.learner(0), 101);
        x.tick();
        e.due("learner(0), two being fresh", x.learner(0), 102);
        RangeScheduler y = Edges.nodes(3, 3, 3);
        y.tick();
        y.tick();
        e.due("learner(0), two being not fresh", y.learner(0), 101);
    }

    private void noCandidate() {
        e.sentence(13, "There may be no candidate.");
        RangeScheduler x = new RangeScheduler();
        e.due("tick(), without nodes", x.tick(), 0);
        x.addNode(0, 1);
        x.setNode(0, 0);
        e.due("tick(), without a node that is up", x.tick(), 0);
        x.setNode(0, 1);
        e.due("tick(), with a candidate", x.tick(), 100);
        e.due("tick(), the only node being a voter", x.tick(), 0);
        e.due("time()", x.time(), 4);
    }

    private void sizeSplitKeyAtHalf() {
        e.sentence(26, "The size split key of a range is the least key of an item of the range, other than the least of "
                + "all, for which the items with lesser keys together have at least half of the size of the range");
        RangeScheduler x = new RangeScheduler();
        x.put(10, 5);
        x.put(20, 3);
        x.put(30, 2);
        e.due("splitKey(0, 0), 5 of 10 below 20", x.splitKey(0, 0), 20);
        x.put(30, 3);
        e.due("splitKey(0, 0), 5 of 11 below 20", x.splitKey(0, 0), 30);
        x.put(30, 1);
        e.due("splitKey(0, 0), 5 of 9 below 20", x.splitKey(0, 0), 20);
        x.put(10, 99);
        e.due("splitKey(0, 0), not the least key of all", x.splitKey(0, 0), 20);

        e.sentence(26, "(that is, twice their sum is at least the size)");
        RangeScheduler y = new RangeScheduler();
        y.put(0, 1);
        y.put(1, 1);
        y.put(2, 1);
        y.put(3, 1);
        e.due("splitKey(0, 0), 2 of 4 below 2", y.splitKey(0, 0), 2);
        y.put(4, 1);
        e.due("splitKey(0, 0), 2 of 5 below 2, 3 below 3", y.splitKey(0, 0), 3);
        y.put(5, 1);
        e.due("splitKey(0, 0), 3 of 6 below 3", y.splitKey(0, 0), 3);
        y.splitAt(3);
        e.due("splitKey(1, 0), of the items 3 to 5 alone", y.splitKey(1, 0), 5);
        e.due("splitKey(0, 0), of the items 0 to 2 alone", y.splitKey(0, 0), 2);
    }

    private void sizeSplitKeyAtTheEnd() {
        e.sentence(26, "if there is none, it is the greatest key of an item.");
        RangeScheduler x = new RangeScheduler();
        x.put(10, 1);
        x.put(20, 1);
        x.put(9999, 3);
        e.due("splitKey(0, 0), 2 of 5 below 9999", x.splitKey(0, 0), 9999);
        x.put(20, 2);
        e.due("splitKey(0, 0), 3 of 6 below 9999", x.splitKey(0, 0), 9999);
        x.put(10, 3);
        e.due("splitKey(0, 0), 3 of 8 below 20", x.splitKey(0, 0), 9999);
        x.put(9999, 1);
        e.due("splitKey(0, 0), 3 of 6 below 20", x.splitKey(0, 0), 20);
    }

    private void sizeSplitKeyOfFewItems() {
        e.sentence(26, "A range with fewer than 2 items has none.");
        RangeScheduler x = new RangeScheduler();
        e.due("splitKey(0, 0), 0 items", x.splitKey(0, 0), NONE);
        x.put(10, 99);
        e.due("splitKey(0, 0), 1 item", x.splitKey(0, 0), NONE);
        x.put(20, 1);
        e.due("splitKey(0, 0), 2 items", x.splitKey(0, 0), 20);
        x.splitAt(20);
        e.due("splitKey(0, 0), 1 item in each", x.splitKey(0, 0), NONE);
        e.due("splitKey(1, 0), 1 item in each", x.splitKey(1, 0), NONE);
        x.put(21, 1);
        e.due("splitKey(1, 0), 2 items", x.splitKey(1, 0), 21);
    }

    private void loadSplitKeyAtHalf() {
        e.sentence(26, "The load split key is the least key of a sample in the range, other than the least of all, for "
                + "which at least half of the samples in the range have lesser keys");
        RangeScheduler x = new RangeScheduler();
        Edges.accesses(x, 10, 2);
        x.access(20);
        x.access(30);
        e.due("splitKey(0, 1), 2 of 4 below 20", x.splitKey(0, 1), 20);
        x.access(30);
        e.due("splitKey(0, 1), 2 of 5 below 20", x.splitKey(0, 1), 30);
        x.access(10);
        e.due("splitKey(0, 1), 3 of 6 below 20", x.splitKey(0, 1), 20);
        Edges.accesses(x, 10, 9);
        e.due("splitKey(0, 1), not the least key of all", x.splitKey(0, 1), 20);

        e.sentence(26, "(twice their number is at least the load)");
        RangeScheduler y = new RangeScheduler();
        for (int key = 3; key >= 0; key--) {
            y.access(key);
        }
        e.due("splitKey(0, 1), 2 of 4 below 2", y.splitKey(0, 1), 2);
        y.access(4);
        e.due("splitKey(0, 1), 2 of 5 below 2, 3 below 3", y.splitKey(0, 1), 3);
        y.access(5);
        e.due("splitKey(0, 1), 3 of 6 below 3", y.splitKey(0, 1), 3);
        y.splitAt(3);
        e.due("splitKey(1, 1), of the samples 3 to 5 alone", y.splitKey(1, 1), 5);
        e.due("splitKey(0, 1), of the samples 0 to 2 alone", y.splitKey(0, 1), 2);
    }

    private void loadSplitKeyAtTheEnd() {
        e.sentence(26, "if there is none, it is the greatest key of a sample.");
        RangeScheduler x = new RangeScheduler();
        x.access(10);
        x.access(20);
        Edges.accesses(x, 9999, 3);
        e.due("splitKey(0, 1), 2 of 5 below 9999", x.splitKey(0, 1), 9999);
        x.access(20);
        e.due("splitKey(0, 1), 3 of 6 below 9999", x.splitKey(0, 1), 9999);
        x.access(10);
        x.access(10);
        e.due("splitKey(0, 1), 3 of 8 below 20", x.splitKey(0, 1), 9999);
        Edges.accesses(x, 10, 2);
        e.due("splitKey(0, 1), 5 of 10 below 20", x.splitKey(0, 1), 20);
    }

    private void loadSplitKeyOfFewSamples() {
        e.sentence(26, "A range whose samples have fewer than 2 different keys has none.");
        RangeScheduler x = new RangeScheduler();
        e.due("splitKey(0, 1), no sample", x.splitKey(0, 1), NONE);
        x.access(10);
        e.due("splitKey(0, 1), one sample", x.splitKey(0, 1), NONE);
        x.access(10);
        e.due("splitKey(0, 1), two samples with one key", x.splitKey(0, 1), NONE);
        x.access(11);
        e.due("splitKey(0, 1), two keys", x.splitKey(0, 1), 11);
        x.splitAt(11);
        e.due("splitKey(0, 1), one key in each", x.splitKey(0, 1), NONE);
        e.due("splitKey(1, 1), one key in each", x.splitKey(1, 1), NONE);
        // 32 samples of one key leave no other.
        Edges.accesses(x, 12, 31);
        e.due("splitKey(1, 1), 11 being the oldest", x.splitKey(1, 1), 12);
        x.access(12);
        e.due("splitKey(1, 1), 11 being dropped", x.splitKey(1, 1), NONE);
    }

    private void splitKeyArguments() {
        e.sentence(26, "- `range`: number of an existing range");
        RangeScheduler x = new RangeScheduler();
        x.put(1, 1);
        x.put(2, 1);
        x.access(3);
        x.access(4);
        e.due("splitKey(0, 0)", x.splitKey(0, 0), 2);
        e.refused(x, "splitKey(1, 0)", () -> x.splitKey(1, 0), INVALID);
        x.splitAt(2);
        e.due("splitKey(1, 0), an existing one now", x.splitKey(1, 0), NONE);
        e.due("splitKey(1, 1)", x.splitKey(1, 1), 4);

        e.sentence(26, "- `kind`: 0 for the size split key, 1 for the load split key");
        RangeScheduler y = new RangeScheduler();
        y.put(1, 1);
        y.put(2, 1);
        e.due("splitKey(0, 0), items alone", y.splitKey(0, 0), 2);
        e.due("splitKey(0, 1), items alone", y.splitKey(0, 1), NONE);
        y.access(3);
        y.access(4);
        e.due("splitKey(0, 0)", y.splitKey(0, 0), 2);
        e.due("splitKey(0, 1)", y.splitKey(0, 1), 4);

        e.sentence(26, "INVALID if an argument is out of range.");
        for (int wrong : new int[] {Integer.MIN_VALUE, -1, 2, 16, Integer.MAX_VALUE}) {
            e.refused(x, "splitKey(" + wrong + ", 0)", () -> x.splitKey(wrong, 0), INVALID);
            e.refused(x, "splitKey(0, " + wrong + ")", () -> x.splitKey(0, wrong), INVALID);
            e.refused(x, "splitKey(" + wrong + ", " + wrong + ")", () -> x.splitKey(wrong, wrong), INVALID);
        }
        e.due("splitKey(1, 1)", x.splitKey(1, 1), 4);

        e.sentence(26, "Returns a split key of a range.");
        e.due("splitKey(0, 0)", y.splitKey(0, 0), 2);
        y.put(2, 99);
        y.put(3, 99);
        e.due("splitKey(0, 0), 100 of 199 below 3", y.splitKey(0, 0), 3);

        e.sentence(26, "Returns the key");
        y.put(9999, 99);
        y.put(0, 99);
        e.due("splitKey(0, 0), 199 of 397 below 3", y.splitKey(0, 0), 3);
        y.put(0, 98);
        e.due("splitKey(0, 0), 198 of 396 below 3", y.splitKey(0, 0), 3);

        e.sentence(26, "NONE if the range has no such key");
        RangeScheduler z = new RangeScheduler();
        e.due("splitKey(0, 0)", z.splitKey(0, 0), NONE);
        e.due("splitKey(0, 1)", z.splitKey(0, 1), NONE);
        e.due("errorCount(0)", z.errorCount(0), 0);
        z.put(0, 1);
        z.put(1, 1);
        e.due("splitKey(0, 0)", z.splitKey(0, 0), 1);
    }
}
