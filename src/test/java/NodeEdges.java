/** Promises 2, 3, 27 and 28: nodes, what is available when they fail, and who leads then. */
final class NodeEdges {
    private static final int NONE = Edges.NONE;
    private static final int INVALID = Edges.INVALID;
    private static final int REJECTED = Edges.REJECTED;
    private static final int FULL = Edges.FULL;
    private static final int LEAST = Integer.MIN_VALUE;
    private static final int GREATEST = Integer.MAX_VALUE;

    private final Edges e;

    NodeEdges(Edges edges) {
        e = edges;
    }

    void run() {
        zones();
        capacities();
        numbers();
        addedNode();
        replicasOnANode();
        fullNode();
        arguments();
        upAndDown();
        availability();
        election();
        electionOfTheFewest();
        learnersOfALostNode();
        leadersOfALostNode();
        leadersRangeByRange();
        nodeThatComesBack();
        replicas();
        leaders();
    }

    private void zones() {
        e.sentence(2, "- `zone`: 0 to 3");
        for (int zone = 0; zone <= 3; zone++) {
            RangeScheduler x = new RangeScheduler();
            e.due("addNode(" + zone + ", 16)", x.addNode(zone, 16), 0);
            x.addNode(zone, 16);
            x.addNode((zone + 1) % 4, 16);
            x.tick();
            x.tick();
            e.due("learner(0), in the other zone", x.learner(0), 102);
        }
        RangeScheduler x = new RangeScheduler();
        for (int wrong : new int[] {LEAST, -1, 4, GREATEST}) {
            e.refused(x, "addNode(" + wrong + ", 1)", () -> x.addNode(wrong, 1), INVALID);
        }
    }

    private void capacities() {
        e.sentence(2, "- `capacity`: 1 to 16");
        for (int capacity : new int[] {1, 2, 15, 16}) {
            RangeScheduler x = new RangeScheduler();
            e.due("addNode(0, " + capacity + ")", x.addNode(0, capacity), 0);
            x.setReplication(1);
            x.setSizes(0, 100);
            for (int i = 1; i < 16; i++) {
                x.splitAt(i);
            }
            e.due("settle(200), a CREATE for each place", x.settle(200), capacity + 1);
            e.due("replicas(0)", x.replicas(0), capacity);
        }
        RangeScheduler x = new RangeScheduler();
        for (int wrong : new int[] {LEAST, -1, 0, 17, GREATEST}) {
            e.refused(x, "addNode(0, " + wrong + ")", () -> x.addNode(0, wrong), INVALID);
        }
    }

    private void numbers() {
        e.sentence(2, "There are at most 8 nodes, numbered from 0 in the order in which they were added.");
        RangeScheduler x = new RangeScheduler();
        for (int node = 0; node < 8; node++) {
            int number = node;
            e.refused(x, "setNode(" + node + ", 0), before it is added", () -> x.setNode(number, 0), INVALID);
            e.due("addNode(3, 16)", x.addNode(3, 16), node);
            e.due("replicas(" + node + ")", x.replicas(node), 0);
        }
        e.refused(x, "setNode(8, 0)", () -> x.setNode(8, 0), INVALID);

        e.sentence(2, "FULL if there are 8 nodes.");
        e.refused(x, "addNode(0, 1), the ninth", () -> x.addNode(0, 1), FULL);
        e.refused(x, "addNode(0, 1), again", () -> x.addNode(0, 1), FULL);
        e.due("undo(), which takes the eighth back", x.undo(), 2);
        e.due("addNode(0, 1), the eighth", x.addNode(0, 1), 7);
        e.refused(x, "addNode(0, 1), the ninth", () -> x.addNode(0, 1), FULL);
        x.setNode(7, 0);
        e.refused(x, "addNode(0, 1), the ninth though one is down", () -> x.addNode(0, 1), FULL);

        e.sentence(2, "INVALID if an argument is out of range");
        e.refused(x, "addNode(4, 1), the ninth", () -> x.addNode(4, 1), INVALID);
        e.refused(x, "addNode(0, 17), the ninth", () -> x.addNode(0, 17), INVALID);
        RangeScheduler y = new RangeScheduler();
        e.refused(y, "addNode(4, 17)", () -> y.addNode(4, 17), INVALID);
        e.refused(y, "addNode(-1, 0)", () -> y.addNode(-1, 0), INVALID);
        e.due("addNode(3, 16)", y.addNode(3, 16), 0);

        e.sentence(2, "Returns the number of the node");
        e.due("addNode(0, 1)", y.addNode(0, 1), 1);
        e.due("addNode(0, 1), the same once more", y.addNode(0, 1), 2);

        e.sentence(2, "Undoable.");
        e.saves(y, "addNode(1, 1)", () -> y.addNode(1, 1), 3);
        e.refused(y, "replicas(3) after it is taken back", () -> y.replicas(3), INVALID);
        e.due("addNode(1, 1) after it is taken back", y.addNode(1, 1), 3);
    }

    private void addedNode() {
        e.sentence(2, "Adds a node, which is up.");
        RangeScheduler x = new RangeScheduler();
        e.due("tick() without nodes", x.tick(), 0);
        x.addNode(0, 1);
        e.refused(x, "setNode(0, 1)", () -> x.setNode(0, 1), REJECTED);
        e.due("tick()", x.tick(), 100);

        e.sentence(2, "A node has a zone (0 to 3) and a capacity (1 to 16 replicas), and it is up (initially) or down.");
        RangeScheduler y = Edges.nodes(2);
        y.setNode(0, 0);
        e.due("tick(), the node being down", y.tick(), 0);
        y.setNode(0, 1);
        e.due("tick(), the node being up", y.tick(), 100);
        // An undone node that was down leaves nothing to the next one with its number.
        RangeScheduler z = new RangeScheduler();
        z.addNode(1, 3);
        z.setNode(0, 0);
        z.undo();
        z.undo();
        z.addNode(2, 2);
        e.refused(z, "setNode(0, 1), of a node added anew", () -> z.setNode(0, 1), REJECTED);
    }

    private void replicasOnANode() {
        e.sentence(27, "The replicas on a node are the ranges that have a voter or a learner on it.");
        RangeScheduler x = Edges.nodes(0, 1);
        x.put(5, 10);
        e.due("replicas(0), neither", x.replicas(0), 0);
        x.tick();
        e.due("replicas(0), a voter", x.replicas(0), 1);
        e.due("replicas(1), neither", x.replicas(1), 0);
        x.tick();
        e.due("replicas(1), a learner", x.replicas(1), 1);
        x.tick();
        e.due("replicas(1), a learner yet", x.replicas(1), 1);
        x.tick();
        e.due("replicas(1), a voter", x.replicas(1), 1);
        e.due("splitAt(5)", x.splitAt(5), 1);
        e.due("replicas(1), of two ranges", x.replicas(1), 2);
        x.setNode(1, 0);
        e.due("replicas(1), a node that is down", x.replicas(1), 2);
        // A learner takes a place, so that the second range has none for its own.
        RangeScheduler y = Edges.settled(1, 0);
        y.addNode(1, 1);
        y.splitAt(10);
        y.put(5, 50);
        y.setReplication(2);
        e.due("tick(), a learner for range 0", y.tick(), 200);
        e.due("tick(), no place for one of range 1", y.tick(), 0);
        y.setNode(1, 0);
        e.due("replicas(1), the learner being lost", y.replicas(1), 0);
    }

    private void fullNode() {
        e.sentence(27, "A node is full if the number of its replicas is at least its capacity.");
        RangeScheduler x = new RangeScheduler();
        x.addNode(0, 2);
        x.setReplication(1);
        x.setSizes(0, 100);
        Edges.split(x, 10, 20);
        e.due("tick(), 0 replicas of 2", x.tick(), 100);
        e.due("tick(), 1 replica of 2", x.tick(), 101);
        e.due("tick(), 2 replicas of 2", x.tick(), 0);
        x.splitAt(5);
        e.due("replicas(0) after a split", x.replicas(0), 3);
        e.due("tick(), 3 replicas of 2", x.tick(), 0);
        e.due("voters(3)", x.voters(3), 0);
        x.addNode(0, 1);
        e.due("tick(), a node with 0 replicas of 1", x.tick(), 103);
        e.due("voters(3)", x.voters(3), 2);
    }

    private void arguments() {
        e.sentence(3, "- `node`: number of an existing node");
        RangeScheduler x = Edges.nodes(0, 1, 2);
        e.due("setNode(0, 0), the first", x.setNode(0, 0), 0);
        e.due("setNode(2, 0), the last", x.setNode(2, 0), 0);
        for (int wrong : new int[] {LEAST, -1, 3, 7, 8, 31, 32, GREATEST}) {
            e.refused(x, "setNode(" + wrong + ", 0)", () -> x.setNode(wrong, 0), INVALID);
            e.refused(x, "setNode(" + wrong + ", 1)", () -> x.setNode(wrong, 1), INVALID);
        }

        e.sentence(3, "- `up`: 1 for up, 0 for down");
        RangeScheduler y = Edges.settled(1, 0);
        e.due("setNode(0, 0)", y.setNode(0, 0), 0);
        e.due("setNode(0, 1)", y.setNode(0, 1), 1);
        for (int wrong : new int[] {LEAST, -1, 2, GREATEST}) {
            e.refused(y, "setNode(0, " + wrong + ")", () -> y.setNode(0, wrong), INVALID);
        }

        e.sentence(3, "INVALID if an argument is out of range");
        e.refused(y, "setNode(1, 2)", () -> y.setNode(1, 2), INVALID);
        e.refused(y, "setNode(-1, -1)", () -> y.setNode(-1, -1), INVALID);
        e.due("setNode(0, 0)", y.setNode(0, 0), 0);
    }

    private void upAndDown() {
        e.sentence(3, "REJECTED if the node is in this state already.");
        RangeScheduler x = Edges.settled(1, 0);
        e.refused(x, "setNode(0, 1), which is up", () -> x.setNode(0, 1), REJECTED);
        e.due("setNode(0, 0)", x.setNode(0, 0), 0);
        e.refused(x, "setNode(0, 0), which is down", () -> x.setNode(0, 0), REJECTED);
        e.due("setNode(0, 1)", x.setNode(0, 1), 1);
        e.refused(x, "setNode(0, 1), which is up again", () -> x.setNode(0, 1), REJECTED);

        e.sentence(3, "Lets a node go down or up.");
        e.due("isAvailable(0)", x.isAvailable(0), 1);
        x.setNode(0, 0);
        e.due("isAvailable(0), the node being down", x.isAvailable(0), 0);
        x.setNode(0, 1);
        e.due("isAvailable(0), the node being up", x.isAvailable(0), 1);

        e.sentence(3, "Returns the number of ranges that are available afterwards");
        RangeScheduler y = Edges.nodes(0, 0, 0);
        y.setReplication(1);
        Edges.split(y, 10, 20);
        e.due("setNode(2, 0), no range having voters", y.setNode(2, 0), 0);
        y.tick();
        y.tick();
        e.due("setNode(2, 1), two of three having voters", y.setNode(2, 1), 2);
        y.tick();
        e.due("setNode(0, 0)", y.setNode(0, 0), 2);
        e.due("setNode(1, 0)", y.setNode(1, 0), 1);
        e.due("setNode(2, 0)", y.setNode(2, 0), 0);
        e.due("setNode(1, 1)", y.setNode(1, 1), 1);

        e.sentence(3, "Undoable.");
        e.saves(y, "setNode(0, 1)", () -> y.setNode(0, 1), 2);
        e.refused(y, "setNode(0, 0) after it is taken back", () -> y.setNode(0, 0), REJECTED);
        e.saves(y, "setNode(1, 0)", () -> y.setNode(1, 0), 0);
        e.due("leader(1) after it is taken back", y.leader(1), 1);
    }

    private void availability() {
        e.sentence(25, "A range is available if more than half of its voters are up.");
        for (int voters = 1; voters <= 5; voters++) {
            RangeScheduler x = Edges.settled(voters, java.util.Arrays.copyOf(new int[] {0, 1, 2, 3, 0}, voters));
            e.due("voters(0)", x.voters(0), (1 << voters) - 1);
            for (int up = voters; up > 0; up--) {
                e.due("isAvailable(0), " + up + " of " + voters, x.isAvailable(0), 2 * up > voters ? 1 : 0);
                x.setNode(voters - up, 0);
            }
            e.due("isAvailable(0), 0 of " + voters, x.isAvailable(0), 0);
        }

        e.sentence(25, "(A range without voters is not available.)");
        RangeScheduler y = Edges.nodes(0);
        e.due("isAvailable(0), without voters", y.isAvailable(0), 0);
        e.due("leader(0), without voters", y.leader(0), NONE);
        y.tick();
        e.due("isAvailable(0), with a voter", y.isAvailable(0), 1);
    }

    private void election() {
        e.sentence(23, "To elect a leader of a range means: if the range is not available, it has no leader");
        RangeScheduler x = Edges.settled(4, 0, 1, 2, 3);
        x.setNode(0, 0);
        e.due("leader(0), 3 of 4 being up", x.leader(0), 1);
        x.setNode(1, 0);
        e.due("leader(0), 2 of 4 being up", x.leader(0), NONE);
        x.setNode(2, 0);
        x.setNode(1, 1);
        e.due("leader(0), an election with 2 of 4 up", x.leader(0), NONE);
        x.setNode(2, 1);
        e.due("leader(0), an election with 3 of 4 up", x.leader(0), 1);

        e.sentence(23, "Each range has a set of voters, which are nodes, at most one learner, which is a node that is not "
                + "a voter, and possibly a leader, which is a voter.");
        RangeScheduler y = Edges.nodes(0, 1, 2, 3, 0);
        y.put(5, 10);
        for (int tick = 0; tick < 12; tick++) {
            y.tick();
            int learner = y.learner(0);
            e.isTrue("the learner is no voter", learner == NONE || (y.voters(0) >> learner % 100 & 1) == 0);
            e.isTrue("the leader is a voter", (y.voters(0) >> y.leader(0) & 1) == 1);
            if (tick == 7) {
                e.due("setNode(0, 0), the leader's", y.setNode(0, 0), 1);
            }
        }
        e.due("voters(0), node 3 for node 0", y.voters(0), 14);
    }

    private void electionOfTheFewest() {
        e.sentence(23, "otherwise its leader becomes the voter that is up and is the leader of the fewest ranges "
                + "(this range not counted)");
        RangeScheduler x = Edges.settled(3, 0, 1, 2);
        x.splitAt(10);
        e.due("tick()", x.tick(), 700);
        e.due("leader(0)", x.leader(0), 1);
        e.due("leader(1)", x.leader(1), 0);
        x.setNode(0, 0);
        e.due("leader(1), node 1 leading a range and node 2 none", x.leader(1), 2);
        RangeScheduler y = Edges.settled(3, 0, 1, 2);
        y.splitAt(10);
        y.tick();
        y.setNode(2, 0);
        y.setNode(0, 0);
        y.setNode(1, 0);
        y.setNode(2, 1);
        e.due("leader(1), one being up", y.leader(1), NONE);
        y.setNode(1, 1);
        e.due("leader(0), both being up", y.leader(0), 1);
        e.due("leader(1), both being up", y.leader(1), 2);

        e.sentence(23, "of several the one with the lowest number.");
        RangeScheduler z = Edges.settled(3, 0, 1, 2);
        z.setNode(0, 0);
        e.due("leader(0), 1 and 2 leading none", z.leader(0), 1);
        RangeScheduler w = Edges.settled(5, 0, 1, 2, 3, 0);
        w.setNode(1, 0);
        w.setNode(0, 0);
        e.due("leader(0), 2, 3 and 4 leading none", w.leader(0), 2);
    }

    private void learnersOfALostNode() {
        e.sentence(3, "When a node goes down, each range whose learner is on it loses its learner.");
        RangeScheduler x = Edges.settled(1, 0);
        Edges.split(x, 10, 20);
        x.put(5, 50);
        x.put(15, 50);
        x.put(25, 50);
        x.addNode(1, 2);
        x.addNode(2, 16);
        x.setNode(2, 0);
        x.setReplication(2);
        x.tick();
        x.tick();
        x.setNode(2, 1);
        x.tick();
        e.due("learner(0)", x.learner(0), 401);
        e.due("learner(1)", x.learner(1), 501);
        e.due("learner(2)", x.learner(2), 602);
        e.due("setNode(1, 0)", x.setNode(1, 0), 3);
        e.due("learner(0), whose node is down", x.learner(0), NONE);
        e.due("learner(1), whose node is down", x.learner(1), NONE);
        e.due("learner(2), whose node is up", x.learner(2), 602);
        x.setNode(1, 1);
        e.due("learner(0), the node being back", x.learner(0), NONE);
        e.due("leader(0), which stays", x.leader(0), 0);
        // A voter that fails takes no learner with it, and the lost learner no voter.
        RangeScheduler y = Edges.settled(3, 0, 1, 2, 3);
        y.put(5, 50);
        y.setNode(2, 0);
        y.tick();
        e.due("learner(0), in the place of node 2", y.learner(0), 603);
        y.setNode(1, 0);
        e.due("learner(0), a voter being down", y.learner(0), 603);
        y.setNode(3, 0);
        e.due("learner(0), its node being down", y.learner(0), NONE);
        e.due("voters(0)", y.voters(0), 7);
    }

    private void leadersOfALostNode() {
        e.sentence(3, "a range that is not available loses its leader");
        RangeScheduler x = Edges.settled(3, 0, 1, 2);
        e.due("setNode(2, 0), 2 of 3 being up", x.setNode(2, 0), 1);
        e.due("leader(0), which is up", x.leader(0), 0);
        e.due("setNode(1, 0), 1 of 3 being up", x.setNode(1, 0), 0);
        e.due("leader(0), though it is up", x.leader(0), NONE);
        e.due("leaders(0)", x.leaders(0), 0);

        e.sentence(3, "a range that is available and whose leader is on this node elects a leader.");
        RangeScheduler y = Edges.settled(3, 0, 1, 2);
        y.splitAt(10);
        y.tick();
        e.due("leader(0)", y.leader(0), 1);
        e.due("leader(1)", y.leader(1), 0);
        y.setNode(1, 0);
        e.due("leader(0), whose leader is down, node 2 leading none", y.leader(0), 2);
        e.due("leader(1), whose leader is up", y.leader(1), 0);
        // Node 2 leads two ranges and node 0 none, but no leader of node 2 is on the lost node.
        RangeScheduler z = Edges.settled(3, 0, 1, 2);
        z.setNode(0, 0);
        z.setNode(0, 1);
        z.splitAt(10);
        e.due("leader(1)", z.leader(1), 1);
        z.setNode(2, 0);
        e.due("leader(0), no election", z.leader(0), 1);
        e.due("leader(1), no election", z.leader(1), 1);
    }

    private void leadersRangeByRange() {
        e.sentence(3, "Then, range by range, a range that is not available loses its leader");
        RangeScheduler x = Edges.settled(3, 0, 1, 2);
        Edges.split(x, 10, 20, 30);
        e.due("leaders(0)", x.leaders(0), 4);
        e.due("setNode(0, 0)", x.setNode(0, 0), 4);
        for (int range = 0; range < 4; range++) {
            e.due("leader(" + range + "), in turns", x.leader(range), 1 + range % 2);
        }
        // Range 0 elects while node 0 still leads range 1, which is lost only after it.
        RangeScheduler y = Edges.settled(2, 0, 1, 2);
        y.splitAt(10);
        e.due("tick(), which shifts a leader to node 1", y.tick(), 700);
        y.setReplication(3);
        e.due("tick(), a learner on node 2 for range 0", y.tick(), 200);
        y.setReplication(2);
        e.due("tick()", y.tick(), 0);
        e.due("setNode(1, 0)", y.setNode(1, 0), 1);
        e.due("leader(0), 0 leading range 1 yet", y.leader(0), 2);
        e.due("leader(1)", y.leader(1), NONE);
        // The other way round: range 0 has lost its leader when range 1 elects.
        RangeScheduler z = Edges.settled(2, 0, 1, 2, 3);
        z.splitAt(10);
        z.tick();
        z.put(5, 50);
        z.setReplication(3);
        e.due("tick(), a learner on node 2 for range 0", z.tick(), 200);
        e.due("tick(), a learner on node 3 for range 1", z.tick(), 201);
        z.setReplication(2);
        z.setNode(2, 0);
        e.due("tick()", z.tick(), 0);
        e.due("voters(1)", z.voters(1), 11);
        e.due("setNode(0, 0)", z.setNode(0, 0), 1);
        e.due("leader(0)", z.leader(0), NONE);
        e.due("leader(1), 1 leading range 0 no more", z.leader(1), 1);
    }

    private void nodeThatComesBack() {
        e.sentence(3, "When a node goes up, each range without a leader elects one, range by range.");
        RangeScheduler x = Edges.settled(3, 0, 1, 2);
        Edges.split(x, 10, 20);
        x.setNode(0, 0);
        x.setNode(1, 0);
        e.due("setNode(1, 1)", x.setNode(1, 1), 3);
        e.due("leader(0)", x.leader(0), 1);
        e.due("leader(1), as node 1 leads range 0", x.leader(1), 2);
        e.due("leader(2)", x.leader(2), 1);
        e.due("setNode(0, 1)", x.setNode(0, 1), 3);
        e.due("leader(0), which has one", x.leader(0), 1);
        e.due("leader(1), which has one", x.leader(1), 2);
        e.due("leader(2), which has one though node 0 leads none", x.leader(2), 1);
        // The last of 16 ranges elects a node that leads 15.
        RangeScheduler z = Edges.settled(1, 0);
        for (int i = 1; i < 16; i++) {
            z.splitAt(i);
        }
        z.setNode(0, 0);
        e.due("leaders(0)", z.leaders(0), 0);
        e.due("setNode(0, 1)", z.setNode(0, 1), 16);
        e.due("leaders(0)", z.leaders(0), 16);
        e.due("leader(15)", z.leader(15), 0);
        // A range whose nodes are still down elects none.
        RangeScheduler y = Edges.nodes(0, 0);
        y.setReplication(1);
        y.splitAt(10);
        y.tick();
        y.tick();
        y.setNode(0, 0);
        y.setNode(1, 0);
        e.due("setNode(1, 1)", y.setNode(1, 1), 1);
        e.due("leader(0), whose node is down", y.leader(0), NONE);
        e.due("leader(1), whose node is up", y.leader(1), 1);
    }

    private void replicas() {
        e.sentence(27, "Returns the number of replicas on a node.");
        RangeScheduler x = Edges.settled(1, 0);
        x.addNode(0, 1);
        e.due("replicas(1)", x.replicas(1), 0);
        for (int i = 1; i < 16; i++) {
            x.splitAt(i);
        }
        e.due("replicas(0), of all ranges", x.replicas(0), 16);

        e.sentence(27, "- `node`: number of an existing node");
        e.due("replicas(0), the first", x.replicas(0), 16);
        e.due("replicas(1), the last", x.replicas(1), 0);

        e.sentence(27, "Returns the number");
        x.tick();
        e.due("replicas(1), of a learner", x.replicas(1), 1);
        e.due("replicas(0), of the voter it replaces, too", x.replicas(0), 16);
        x.tick();
        e.due("replicas(1), of a voter", x.replicas(1), 1);
        e.due("replicas(0), without the replaced one", x.replicas(0), 15);

        e.sentence(27, "INVALID if there is no such node.");
        for (int wrong : new int[] {LEAST, -1, 2, 8, 32, GREATEST}) {
            e.refused(x, "replicas(" + wrong + ")", () -> x.replicas(wrong), INVALID);
        }
        RangeScheduler y = new RangeScheduler();
        e.refused(y, "replicas(0) without nodes", () -> y.replicas(0), INVALID);
        y.addNode(0, 1);
        e.due("replicas(0)", y.replicas(0), 0);
    }

    private void leaders() {
        e.sentence(28, "Returns the number of ranges of which a node is the leader.");
        RangeScheduler x = Edges.settled(2, 0, 1);
        e.due("leaders(0)", x.leaders(0), 1);
        e.due("leaders(1), a voter that does not lead", x.leaders(1), 0);
        for (int i = 1; i < 16; i++) {
            x.splitAt(i);
        }
        e.due("leaders(0), of all ranges", x.leaders(0), 16);
        e.due("leaders(1)", x.leaders(1), 0);

        e.sentence(28, "- `node`: number of an existing node");
        x.settle(50);
        e.due("leaders(0), the first", x.leaders(0), 8);
        e.due("leaders(1), the last", x.leaders(1), 8);

        e.sentence(28, "Returns the number");
        x.tick();
        x.setNode(0, 0);
        e.due("leaders(0), which is down", x.leaders(0), 0);
        e.due("leaders(1), which is up, no range being available", x.leaders(1), 0);
        x.setNode(0, 1);
        e.due("leaders(0), which is up again", x.leaders(0), 8);

        e.sentence(28, "INVALID if there is no such node.");
        for (int wrong : new int[] {LEAST, -1, 2, 8, 32, GREATEST}) {
            e.refused(x, "leaders(" + wrong + ")", () -> x.leaders(wrong), INVALID);
        }
        RangeScheduler y = new RangeScheduler();
        e.refused(y, "leaders(0) without nodes", () -> y.leaders(0), INVALID);
        y.addNode(0, 1);
        e.due("leaders(0)", y.leaders(0), 0);
    }
}
