/** Promises 13 to 16: how a tick goes, settling, and what is counted. */
final class TickEdges {
    private static final int NONE = Edges.NONE;
    private static final int INVALID = Edges.INVALID;

    private final Edges e;

    TickEdges(Edges edges) {
        e = edges;
    }

    void run() {
        learnersFirst();
        learnersInOrder();
        learnersWithoutALeader();
        learnersAtTheEnd();
        replacedVoters();
        oneAction();
        actionsInOrder();
        rangesInOrder();
        tick();
        settleUntilNothing();
        settleAtMost();
        settleArguments();
        performed();
        performedArguments();
        time();
    }

    private void learnersFirst() {
        e.sentence(13, "A tick first lets the learners progress");
        RangeScheduler x = Edges.nodes(0, 1, 2);
        x.tick();
        e.due("tick()", x.tick(), 200);
        e.due("learner(0), that a tick has made", x.learner(0), 101);
        e.due("tick(), the learner being a voter before the action", x.tick(), 200);
        e.due("voters(0)", x.voters(0), 3);
        e.due("learner(0), the next one", x.learner(0), 102);
    }

    /** Ranges 1 and 2 get node 2 for node 1, their leader, in one tick; range 0 is led by node 0. */
    private void learnersInOrder() {
        e.sentence(13, "range by range in order");
        RangeScheduler x = Edges.nodes(0, 0);
        x.setSizes(0, 100);
        x.setReplication(2);
        x.setNode(0, 0);
        x.tick();
        x.setNode(0, 1);
        x.settle(9);
        e.due("leader(0)", x.leader(0), 1);
        Edges.split(x, 10, 20);
        e.due("tick(), which shifts a leader", x.tick(), 700);
        x.put(5, 90);
        x.put(15, 20);
        x.put(25, 10);
        x.addNode(1, 16);
        e.due("tick()", x.tick(), 300);
        e.due("tick()", x.tick(), 301);
        e.due("tick()", x.tick(), 302);
        e.due("tick()", x.tick(), 0);
        e.due("learner(1)", x.learner(1), 102);
        e.due("learner(2)", x.learner(2), 102);
        e.due("tick(), which shifts a leader", x.tick(), 700);
        e.due("voters(1)", x.voters(1), 5);
        e.due("voters(2)", x.voters(2), 5);
        e.due("leader(1), elected first: 0 leads range 0, 2 none", x.leader(1), 2);
        e.due("leader(2), elected then: 0 leads range 0, 2 range 1", x.leader(2), 0);
        e.due("learner(0), of a range before them", x.learner(0), 602);
    }

    private void learnersWithoutALeader() {
        e.sentence(13, "if the learner's node is up and the range has a leader, the remaining ticks decrease by 1");
        RangeScheduler x = Edges.settled(2, 0, 1);
        x.addNode(2, 16);
        x.put(5, 30);
        x.setReplication(3);
        x.tick();
        e.due("learner(0)", x.learner(0), 402);
        x.tick();
        e.due("learner(0), a leader", x.learner(0), 302);
        x.setNode(0, 0);
        x.tick();
        x.tick();
        e.due("learner(0), no leader for two ticks", x.learner(0), 302);
        x.setNode(0, 1);
        x.tick();
        e.due("learner(0), a leader again", x.learner(0), 202);
        x.setNode(2, 0);
        x.tick();
        e.due("learner(0), its node being down", x.learner(0), NONE);
    }

    private void learnersAtTheEnd() {
        e.sentence(13, "if they are 0 then, the learner becomes a voter");
        RangeScheduler x = Edges.settled(1, 0);
        x.addNode(1, 16);
        x.put(5, 10);
        x.setReplication(2);
        x.tick();
        e.due("learner(0), 2 ticks", x.learner(0), 201);
        x.tick();
        e.due("learner(0), 1 tick", x.learner(0), 101);
        e.due("voters(0), 1 tick", x.voters(0), 1);
        x.tick();
        e.due("learner(0), 0 ticks", x.learner(0), NONE);
        e.due("voters(0), 0 ticks", x.voters(0), 3);
        e.due("leader(0), which stays", x.leader(0), 0);
    }

    private void replacedVoters() {
        e.sentence(13, "if a voter is to be replaced, it is removed from the voters");
        RangeScheduler x = Edges.settled(3, 0, 1, 2, 3);
        x.setNode(2, 0);
        x.tick();
        e.due("learner(0)", x.learner(0), 103);
        e.due("voters(0), before", x.voters(0), 7);
        x.tick();
        e.due("voters(0), node 3 for node 2", x.voters(0), 11);
        e.due("replicas(2)", x.replicas(2), 0);
        x.setNode(2, 1);
        x.setReplication(4);
        x.tick();
        x.tick();
        e.due("voters(0), none to be replaced", x.voters(0), 15);

        e.sentence(13, "and if it was the leader, a leader is elected.");
        RangeScheduler y = Edges.settled(2, 0, 1);
        y.splitAt(10);
        y.settle(9);
        e.due("leader(0)", y.leader(0), 1);
        e.due("leader(1)", y.leader(1), 0);
        y.put(5, 10);
        y.addNode(2, 16);
        e.due("tick(), 2 for 0 in range 0", y.tick(), 800);
        y.settle(9);
        e.due("voters(0)", y.voters(0), 6);
        e.due("leader(0), node 1, which is not replaced", y.leader(0), 1);
        RangeScheduler z = Edges.settled(2, 0, 1);
        z.splitAt(10);
        z.settle(9);
        z.setNode(1, 0);
        z.setNode(1, 1);
        e.due("leader(0)", z.leader(0), 0);
        e.due("leader(1)", z.leader(1), 1);
        z.addNode(2, 16);
        e.due("tick(), 2 for 0 in range 0", z.tick(), 800);
        z.settle(9);
        e.due("voters(0)", z.voters(0), 6);
        e.due("leader(0), as node 1 leads range 1 and node 2 none", z.leader(0), 2);
    }

    private void oneAction() {
        e.sentence(13, "Then at most one action is performed");
        RangeScheduler x = Edges.nodes(0);
        x.setReplication(1);
        Edges.split(x, 10, 20);
        e.due("tick(), three being possible", x.tick(), 100);
        e.due("voters(1), left for later", x.voters(1), 0);
        e.due("tick()", x.tick(), 101);
        e.due("tick()", x.tick(), 102);
        e.due("tick(), two merges being possible", x.tick(), 600);
        e.due("rangeCount()", x.rangeCount(), 2);
        e.due("tick()", x.tick(), 600);
        e.due("tick(), none being possible", x.tick(), 0);
    }

    /** Lets one action after the other become impossible: what is left is the next in the order. */
    private void actionsInOrder() {
        e.sentence(13, "the actions are tried in the order of their numbers, each on the ranges in order");
        RangeScheduler x = Edges.settled(2, 0, 0);
        Edges.split(x, 10, 20, 30, 40, 50);
        e.due("leaders(0)", x.leaders(0), 6);
        x.addNode(0, 16);
        e.due("tick(), SHIFT_LEADER before SHIFT_REPLICA", x.tick(), 700);
        x.setSizes(1, 50);
        e.due("tick(), MERGE before SHIFT_LEADER", x.tick(), 600);
        x.access(41);
        x.access(42);
        x.setLoads(1, 1);
        e.due("tick(), SPLIT_LOAD before MERGE", x.tick(), 503);
        x.put(41, 30);
        x.put(35, 30);
        x.put(36, 30);
        x.access(35);
        e.due("tick(), SPLIT_SIZE before MERGE", x.tick(), 402);
        x.access(37);
        x.put(38, 30);
        e.due("load(3)", x.load(3), 1);
        x.access(39);
        e.due("tick(), SPLIT_SIZE before SPLIT_LOAD", x.tick(), 403);
        x.put(40, 30);
        x.addNode(1, 16);
        e.due("tick(), SPREAD before SPLIT_SIZE", x.tick(), 300);
        x.setReplication(3);
        e.due("tick(), REPAIR before SPREAD", x.tick(), 200);
        RangeScheduler y = Edges.nodes(0, 1);
        y.tick();
        y.splitAt(10);
        e.due("tick(), REPAIR alone", y.tick(), 200);
        RangeScheduler z = Edges.nodes(0, 1);
        z.splitAt(10);
        z.tick();
        e.due("tick(), CREATE on range 1 before REPAIR on range 0", z.tick(), 101);
        e.due("tick(), REPAIR", z.tick(), 200);
    }

    private void rangesInOrder() {
        e.sentence(13, "the first one that is possible is performed.");
        RangeScheduler x = Edges.settled(1, 0);
        Edges.split(x, 10, 20);
        x.put(15, 60);
        x.put(16, 60);
        x.put(25, 60);
        x.put(26, 60);
        e.due("tick(), ranges 1 and 2 being too big", x.tick(), 401);
        e.due("tick(), the one after it", x.tick(), 403);
        e.due("tick()", x.tick(), 0);
        RangeScheduler y = Edges.settled(1, 0);
        Edges.split(y, 10, 20, 30);
        y.put(5, 50);
        y.setSizes(20, 100);
        e.due("tick(), ranges 1 and 2 being cold", y.tick(), 601);
    }

    private void tick() {
        e.sentence(13, "Performs a tick.");
        RangeScheduler x = Edges.nodes(0);
        e.due("time()", x.time(), 0);
        e.due("tick()", x.tick(), 100);
        e.due("time()", x.time(), 1);
        e.due("tick(), which performs nothing", x.tick(), 0);
        e.due("time()", x.time(), 2);

        e.sentence(13, "Returns 100 * action + range, where range is the number that the range had when the action was "
                + "performed on it");
        RangeScheduler y = Edges.settled(1, 0);
        for (int i = 1; i < 16; i++) {
            y.splitAt(i);
        }
        y.put(14, 1);
        y.setSizes(1, 100);
        for (int merges = 0; merges < 13; merges++) {
            e.due("tick(), MERGE on range 0", y.tick(), 600);
        }
        e.due("tick(), 14 being too big", y.tick(), 0);
        RangeScheduler z = Edges.settled(1, 0);
        for (int i = 1; i < 15; i++) {
            z.splitAt(i);
        }
        z.put(14, 60);
        z.put(99, 60);
        e.due("tick(), SPLIT_SIZE on the last of 15 ranges", z.tick(), 414);
        z.addNode(0, 16);
        e.due("tick(), SHIFT_REPLICA on the first of 16", z.tick(), 800);
        RangeScheduler last = Edges.nodes(0);
        last.setReplication(1);
        for (int i = 1; i < 16; i++) {
            last.splitAt(i);
        }
        last.settle(15);
        e.due("tick(), CREATE on the last of 16", last.tick(), 115);

        e.sentence(13, "0 if no action was performed.");
        RangeScheduler w = Edges.nodes(0, 1);
        w.put(5, 20);
        w.tick();
        w.tick();
        e.due("tick(), a learner progresses", w.tick(), 0);
        e.due("tick(), a learner progresses", w.tick(), 0);
        e.due("tick(), a learner becomes a voter", w.tick(), 0);
        e.due("voters(0)", w.voters(0), 3);
        w.addNode(2, 16);
        e.due("tick()", w.tick(), 200);

        e.sentence(13, "Undoable.");
        e.saves(w, "tick()", () -> w.tick(), 0);
        w.settle(9);
        e.saves(w, "tick(), which performs nothing", () -> w.tick(), 0);
        w.splitAt(10);
        e.saves(w, "tick(), which shifts a leader", () -> w.tick(), 700);
    }

    private void settleUntilNothing() {
        e.sentence(14, "Performs ticks until a tick performs no action and no range has a learner after it, but at most so many.");
        RangeScheduler x = new RangeScheduler();
        e.due("settle(200), nothing to do", x.settle(200), 1);
        x.addNode(0, 16);
        e.due("settle(200), one action", x.settle(200), 2);
        x.addNode(1, 16);
        e.due("settle(200), a learner that becomes a voter in the tick after", x.settle(200), 2);
        x.addNode(2, 16);
        x.put(5, 30);
        e.due("settle(200), a learner of 4 ticks", x.settle(200), 5);
        e.due("voters(0)", x.voters(0), 7);
        e.due("settle(200), nothing to do", x.settle(200), 1);
        // The last tick: a learner becomes a voter and an action is performed, so that one more follows.
        RangeScheduler y = Edges.nodes(0, 1, 2);
        y.tick();
        e.due("settle(200): learner, voter and learner, voter", y.settle(200), 3);
        // A learner that can not progress keeps the ticks going up to the limit.
        RangeScheduler z = Edges.settled(2, 0, 1);
        z.addNode(2, 16);
        z.setReplication(3);
        z.tick();
        z.setNode(0, 0);
        e.due("settle(200), a learner that waits", z.settle(200), 200);
        e.due("learner(0)", z.learner(0), 102);
        z.setNode(0, 1);
        e.due("settle(200), the learner goes on", z.settle(200), 1);
    }

    private void settleAtMost() {
        e.sentence(14, "but at most so many");
        RangeScheduler x = Edges.nodes(0);
        x.setReplication(1);
        x.setSizes(0, 100);
        Edges.split(x, 10, 20, 30);
        e.due("settle(1)", x.settle(1), 1);
        e.due("performed(1)", x.performed(1), 1);
        e.due("settle(2)", x.settle(2), 2);
        e.due("performed(1)", x.performed(1), 3);
        e.due("settle(1), the last action", x.settle(1), 1);
        e.due("settle(2), nothing to do", x.settle(2), 1);

        e.sentence(14, "Returns the number of ticks that were performed");
        e.due("time()", x.time(), 5);
        e.due("settle(7)", x.settle(7), 1);
        e.due("time()", x.time(), 6);
        x.splitAt(40);
        x.setSizes(1, 100);
        e.due("settle(7), 4 merges", x.settle(7), 5);
        e.due("time()", x.time(), 11);

        e.sentence(14, "Undoable (one saved state).");
        RangeScheduler y = Edges.nodes(0, 1, 2);
        y.settle(200);
        e.due("time()", y.time(), 4);
        e.due("undo(), the whole of it", y.undo(), 3);
        e.due("time()", y.time(), 0);
        e.due("voters(0)", y.voters(0), 0);
        e.saves(y, "settle(200)", () -> y.settle(200), 4);
        y.settle(200);
        e.saves(y, "settle(5), nothing to do", () -> y.settle(5), 1);
    }

    private void settleArguments() {
        e.sentence(14, "- `ticks`: 1 to 200");
        RangeScheduler x = Edges.settled(1, 0);
        x.addNode(1, 16);
        x.setSpeed(1);
        x.setSizes(0, 999);
        for (int key = 0; key < 5; key++) {
            x.put(key, 99);
        }
        x.setReplication(2);
        e.due("settle(1)", x.settle(1), 1);
        e.due("learner(0)", x.learner(0), 49601);
        e.due("settle(199)", x.settle(199), 199);
        e.due("settle(200)", x.settle(200), 200);
        e.due("learner(0)", x.learner(0), 9701);

        e.sentence(14, "INVALID if ticks is out of range.");
        for (int wrong : new int[] {Integer.MIN_VALUE, -1, 0, 201, Integer.MAX_VALUE}) {
            e.refused(x, "settle(" + wrong + ")", () -> x.settle(wrong), INVALID);
        }
        e.due("settle(200)", x.settle(200), 97);
    }

    private void performed() {
        e.sentence(15, "Returns how often an action has been performed.");
        RangeScheduler x = Edges.nodes(0, 0);
        for (int action = 1; action <= 8; action++) {
            e.due("performed(" + action + ")", x.performed(action), 0);
        }
        x.setReplication(2);
        x.settle(9);
        e.due("performed(1)", x.performed(1), 1);
        e.due("performed(2)", x.performed(2), 1);
        e.due("performed(3)", x.performed(3), 0);

        e.sentence(15, "Returns the number");
        x.splitAt(10);
        e.due("performed(4), a split by hand", x.performed(4), 0);
        e.due("performed(5), a split by hand", x.performed(5), 0);
        x.settle(9);
        e.due("performed(6)", x.performed(6), 1);
        x.setNode(0, 0);
        x.setNode(0, 1);
        e.due("performed(7), a leader elected", x.performed(7), 0);
        x.addNode(1, 16);
        x.tick();
        e.due("performed(3)", x.performed(3), 1);
        x.undo();
        e.due("performed(3), undone", x.performed(3), 0);
    }

    private void performedArguments() {
        e.sentence(15, "- `action`: 1 to 8");
        RangeScheduler x = Edges.settled(1, 0);
        e.due("performed(1)", x.performed(1), 1);
        x.splitAt(10);
        x.addNode(0, 16);
        x.tick();
        e.due("performed(8)", x.performed(8), 1);
        e.due("performed(7)", x.performed(7), 0);

        e.sentence(15, "INVALID if action is out of range.");
        for (int wrong : new int[] {Integer.MIN_VALUE, -1, 0, 9, Integer.MAX_VALUE}) {
            e.refused(x, "performed(" + wrong + ")", () -> x.performed(wrong), INVALID);
        }
        e.due("performed(8)", x.performed(8), 1);
    }

    private void time() {
        e.sentence(16, "Returns the number of ticks so far.");
        RangeScheduler x = Edges.nodes(0);
        e.due("time()", x.time(), 0);
        x.tick();
        e.due("time()", x.time(), 1);
        x.settle(50);
        e.due("time()", x.time(), 2);
        e.refused(x, "settle(0)", () -> x.settle(0), INVALID);
        e.due("time(), a refused settle", x.time(), 2);

        e.sentence(16, "Returns the number.");
        x.undo();
        e.due("time(), settle being undone", x.time(), 1);
        x.undo();
        e.due("time(), tick being undone", x.time(), 0);
        x.put(1, 1);
        x.access(1);
        x.splitAt(1);
        x.setNode(0, 0);
        e.due("time(), calls that are no ticks", x.time(), 0);
    }
}
