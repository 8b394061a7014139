/** Promise 13: the conditions of the actions, each part at its boundary, and what the actions do. */
final class ActionEdges {
    private static final int NONE = Edges.NONE;

    private final Edges e;

    ActionEdges(Edges edges) {
        e = edges;
    }

    void run() {
        create();
        repairOfAvailable();
        repairWithoutLearner();
        repairUpToTheFactor();
        repairInThePlaceOf();
        learnerTicks();
        spreadOfWhole();
        spreadOfSameZone();
        spreadToFresh();
        splitSize();
        splitSizeAtSixteen();
        splitLoad();
        splitLoadAtSixteen();
        splitKeepsVoters();
        mergeOfLast();
        mergeWithoutLearner();
        mergeOfSameVoters();
        mergeOfSmall();
        mergeOfFittingSum();
        mergeKeepsLeader();
        shiftLeader();
        shiftLeaderToWhom();
        shiftReplicaOfWhole();
        shiftReplicaFromWhom();
        shiftReplicaByTwo();
        shiftReplicaToZone();
    }

    private void create() {
        e.sentence(13, "- CREATE (1): the range has no voters, and a node can be chosen for it");
        RangeScheduler x = new RangeScheduler();
        e.due("tick(), no node", x.tick(), 0);
        x.addNode(0, 1);
        e.due("tick(), no voters and a node", x.tick(), 100);
        x.addNode(0, 1);
        x.setReplication(1);
        e.due("tick(), a voter and a node", x.tick(), 0);
        x.splitAt(10);
        e.due("voters(1), split from a range with a voter", x.voters(1), 1);
        x.setNode(0, 0);
        e.due("tick(), a voter that is down and a node that is up", x.tick(), 0);

        e.sentence(13, "the chosen node becomes its only voter, and a leader is elected.");
        RangeScheduler y = Edges.nodes(0, 1);
        y.splitAt(10);
        y.setNode(0, 0);
        e.due("voters(0)", y.voters(0), 0);
        y.tick();
        e.due("voters(0)", y.voters(0), 2);
        e.due("leader(0)", y.leader(0), 1);
        e.due("learner(0)", y.learner(0), NONE);
        e.due("leader(1), of the range beside it", y.leader(1), NONE);
    }

    private void repairOfAvailable() {
        e.sentence(13, "- REPAIR (2): the range is available");
        RangeScheduler x = Edges.settled(4, 0, 1, 2, 3);
        x.addNode(0, 16);
        x.setNode(0, 0);
        x.setNode(1, 0);
        e.due("tick(), 2 of 4 being up", x.tick(), 0);
        x.setNode(1, 1);
        e.due("tick(), 3 of 4 being up", x.tick(), 200);
    }

    private void repairWithoutLearner() {
        e.sentence(13, "it has no learner, the number of its voters that are up is less than R");
        RangeScheduler x = Edges.settled(1, 0);
        x.addNode(1, 16);
        x.addNode(2, 16);
        x.setReplication(3);
        x.put(5, 20);
        e.due("tick(), no learner", x.tick(), 200);
        e.due("learner(0)", x.learner(0), 301);
        e.due("tick(), a learner", x.tick(), 0);
        e.due("tick(), a learner", x.tick(), 0);
        e.due("tick(), the learner has become a voter", x.tick(), 200);
        e.due("voters(0)", x.voters(0), 3);
        e.due("learner(0)", x.learner(0), 302);
    }

    private void repairUpToTheFactor() {
        e.sentence(13, "the number of its voters that are up is less than R");
        RangeScheduler x = Edges.settled(3, 0, 1, 2, 3);
        e.due("tick(), 3 up for 3", x.tick(), 0);
        x.setReplication(4);
        e.due("tick(), 3 up for 4", x.tick(), 200);
        RangeScheduler y = Edges.settled(3, 0, 1, 2, 3);
        y.setReplication(2);
        y.setNode(0, 0);
        e.due("tick(), 2 of 3 up for 2", y.tick(), 0);
        y.setReplication(3);
        e.due("tick(), 2 of 3 up for 3", y.tick(), 200);
        RangeScheduler z = Edges.settled(3, 0, 1, 2, 3);
        z.setReplication(1);
        e.due("tick(), 3 up for 1", z.tick(), 0);
        e.due("voters(0), none being taken away", z.voters(0), 7);

        e.sentence(13, "and a node can be chosen (with the voter that is down");
        RangeScheduler w = Edges.settled(2, 0, 1);
        w.setReplication(3);
        e.due("tick(), no node left", w.tick(), 0);
        w.addNode(0, 1);
        e.due("tick(), a node left", w.tick(), 200);
    }

    private void repairInThePlaceOf() {
        e.sentence(13, "with the voter that is down and has the lowest number as the one to be replaced, if a voter is down");
        RangeScheduler x = Edges.settled(5, 0, 1, 2, 3, 0);
        x.addNode(2, 16);
        x.setNode(4, 0);
        x.setNode(2, 0);
        e.due("tick()", x.tick(), 200);
        x.setReplication(1);
        x.tick();
        e.due("voters(0), node 5 for node 2, and 4 though it is down", x.voters(0), 1 + 2 + 8 + 16 + 32);

        e.sentence(13, "otherwise without one): the chosen node becomes the learner with 1 + size / speed remaining ticks");
        RangeScheduler y = Edges.settled(2, 0, 1, 2);
        y.setReplication(3);
        y.tick();
        e.due("learner(0)", y.learner(0), 102);
        e.due("voters(0), not yet", y.voters(0), 3);
        y.tick();
        e.due("voters(0), none being replaced", y.voters(0), 7);

        e.sentence(13, "and the voter named before, if there is one, is to be replaced.");
        RangeScheduler z = Edges.settled(3, 0, 1, 2, 3);
        z.setNode(1, 0);
        z.tick();
        e.due("voters(0), not yet", z.voters(0), 7);
        z.setNode(1, 1);
        z.tick();
        e.due("voters(0), though node 1 is up again", z.voters(0), 13);

        e.sentence(13, "A learner has a number of remaining ticks, and possibly a node that is to be replaced, which is a voter.");
        RangeScheduler w = Edges.settled(3, 0, 1, 2, 3);
        w.put(5, 30);
        w.setNode(1, 0);
        w.tick();
        e.due("learner(0), for node 1", w.learner(0), 403);
        w.setReplication(4);
        w.settle(3);
        e.due("learner(0)", w.learner(0), 103);
        w.tick();
        e.due("voters(0), node 3 for node 1", w.voters(0), 13);
        w.setNode(1, 1);
        w.tick();
        e.due("learner(0), for none", w.learner(0), 401);
        w.settle(4);
        e.due("voters(0), one more", w.voters(0), 15);
    }

    private void learnerTicks() {
        e.sentence(13, "\"Size / speed\" is an integer division.");
        int[][] sizeSpeedTicks = {{0, 10, 1}, {1, 10, 1}, {9, 10, 1}, {10, 10, 2}, {11, 10, 2}, {19, 10, 2}, {20, 10, 3},
            {99, 10, 10}, {0, 1, 1}, {1, 1, 2}, {99, 1, 100}, {0, 99, 1}, {98, 99, 1}, {99, 99, 2}, {50, 7, 8}};
        for (int[] row : sizeSpeedTicks) {
            String given = "learner(0), size " + row[0] + " and speed " + row[1];
            int due = 100 * row[2];
            e.due(given + ", of REPAIR", teaching(2, row[0], row[1]), due + 2);
            e.due(given + ", of SPREAD", teaching(3, row[0], row[1]), due + 2);
            e.due(given + ", of SHIFT_REPLICA", teaching(8, row[0], row[1]), due + 2);
        }
    }

    /** What learner(0) answers after a tick that has performed this action on a range of this size. */
    private int teaching(int action, int size, int speed) {
        RangeScheduler x = Edges.settled(2, 0, action == 3 ? 0 : 1);
        if (action == 8) {
            x.splitAt(10);
            x.tick();
        }
        if (size > 0) {
            x.put(5, size);
        }
        x.setSpeed(speed);
        x.setReplication(action == 2 ? 3 : 2);
        x.addNode(2, 16);
        e.due("tick()", x.tick(), 100 * action);
        return x.learner(0);
    }

    private void spreadOfWhole() {
        e.sentence(13, "- SPREAD (3): the range is available, all its voters are up");
        RangeScheduler x = Edges.settled(3, 0, 0, 0);
        x.setReplication(2);
        x.addNode(1, 16);
        x.setNode(2, 0);
        e.due("tick(), 2 of 3 being up", x.tick(), 0);
        x.setNode(2, 1);
        e.due("tick(), 3 of 3 being up", x.tick(), 300);
        RangeScheduler y = Edges.nodes(0, 0);
        y.setNode(0, 0);
        y.setNode(1, 0);
        e.due("tick(), no voters", y.tick(), 0);

        e.sentence(13, "it has no learner, two of its voters are in the same zone");
        RangeScheduler z = Edges.settled(2, 0, 0);
        z.put(5, 20);
        z.addNode(1, 16);
        z.addNode(2, 16);
        e.due("tick(), no learner", z.tick(), 300);
        e.due("learner(0)", z.learner(0), 302);
        e.due("tick(), a learner", z.tick(), 0);
        e.due("learner(0)", z.learner(0), 202);
        z.setNode(2, 0);
        e.due("tick(), the learner being lost", z.tick(), 300);
        e.due("learner(0)", z.learner(0), 303);
    }

    private void spreadOfSameZone() {
        e.sentence(13, "two of its voters are in the same zone");
        RangeScheduler x = Edges.settled(3, 0, 1, 2);
        x.addNode(3, 16);
        e.due("tick(), three zones", x.tick(), 0);
        RangeScheduler y = Edges.settled(3, 0, 1, 1);
        y.addNode(3, 16);
        e.due("tick(), two zones", y.tick(), 300);
        RangeScheduler one = Edges.settled(1, 0);
        one.addNode(3, 16);
        e.due("tick(), one voter", one.tick(), 0);

        e.sentence(13, "with v, the voter with the highest number that is in the same zone as another voter, as the one to be "
                + "replaced, a node can be chosen");
        y.tick();
        e.due("voters(0), 3 for 2 of the zones 0, 1, 1", y.voters(0), 11);
        RangeScheduler z = Edges.settled(3, 0, 0, 1);
        z.addNode(3, 16);
        z.settle(9);
        e.due("voters(0), 3 for 1 of the zones 0, 0, 1", z.voters(0), 13);
        RangeScheduler w = Edges.settled(4, 0, 1, 0, 1);
        w.addNode(2, 16);
        w.settle(9);
        e.due("voters(0), 4 for 3 of the zones 0, 1, 0, 1", w.voters(0), 23);
        RangeScheduler last = Edges.nodes(0, 1, 0);
        last.setReplication(2);
        last.setNode(1, 0);
        last.settle(9);
        e.due("voters(0)", last.voters(0), 5);
        last.setNode(1, 1);
        e.due("tick(), v being the last node", last.tick(), 300);
        last.tick();
        e.due("voters(0), 1 for 2", last.voters(0), 3);
        RangeScheduler u = Edges.settled(2, 0, 0);
        e.due("tick(), no node to be chosen", u.tick(), 0);
        u.addNode(1, 1);
        e.due("tick(), a node to be chosen", u.tick(), 300);
    }

    private void spreadToFresh() {
        e.sentence(13, "and the chosen node is fresh: it becomes the learner with 1 + size / speed remaining ticks, and v is to "
                + "be replaced.");
        RangeScheduler x = Edges.settled(2, 0, 0);
        x.addNode(0, 16);
        e.due("tick(), not fresh", x.tick(), 0);
        x.addNode(1, 16);
        e.due("tick(), fresh", x.tick(), 300);
        e.due("learner(0)", x.learner(0), 103);
        e.due("voters(0), not yet", x.voters(0), 3);
        x.tick();
        e.due("voters(0), 3 for 1", x.voters(0), 9);
        // A node in the zone of another pair is not fresh.
        RangeScheduler y = Edges.settled(4, 0, 0, 1, 1);
        y.addNode(0, 16);
        y.addNode(1, 16);
        e.due("tick(), neither being fresh", y.tick(), 0);
        y.addNode(3, 1);
        e.due("tick(), fresh", y.tick(), 300);
        e.due("learner(0)", y.learner(0), 106);
    }

    private void splitSize() {
        e.sentence(13, "- SPLIT_SIZE (4): the range has no learner, its size is greater than the maximum size");
        RangeScheduler x = Edges.settled(1, 0);
        x.put(5, 60);
        x.put(6, 40);
        e.due("tick(), size 100", x.tick(), 0);
        x.put(6, 41);
        e.due("tick(), size 101", x.tick(), 400);
        RangeScheduler y = Edges.settled(1, 0);
        y.addNode(1, 16);
        y.setReplication(2);
        y.put(5, 60);
        y.tick();
        y.put(6, 60);
        e.due("tick(), a learner", y.tick(), 0);
        y.setNode(1, 0);
        e.due("tick(), the learner being lost", y.tick(), 400);

        e.sentence(13, "it has a size split key, and there are fewer than 16 ranges: the range is split there.");
        RangeScheduler none = new RangeScheduler();
        none.put(5, 60);
        none.put(6, 60);
        e.due("tick(), not available", none.tick(), 400);
        RangeScheduler z = Edges.settled(1, 0);
        z.setSizes(0, 1);
        z.put(5, 99);
        e.due("tick(), one item", z.tick(), 0);
        z.put(9, 1);
        e.due("splitKey(0, 0)", z.splitKey(0, 0), 9);
        e.due("tick(), two items", z.tick(), 400);
        e.due("start(1), at the key", z.start(1), 9);
        e.due("tick(), one item in each", z.tick(), 0);
    }

    private void splitSizeAtSixteen() {
        e.sentence(13, "there are fewer than 16 ranges");
        RangeScheduler x = Edges.settled(1, 0);
        for (int i = 1; i < 15; i++) {
            x.splitAt(9000 + i);
        }
        x.put(5, 60);
        x.put(6, 60);
        e.due("tick(), 15 ranges", x.tick(), 400);
        x.put(4, 60);
        e.due("rangeCount()", x.rangeCount(), 16);
        e.due("size(0)", x.size(0), 120);
        e.due("tick(), 16 ranges", x.tick(), 0);
    }

    private void splitLoad() {
        e.sentence(13, "- SPLIT_LOAD (5): the range has no learner, its load is greater than the maximum load");
        RangeScheduler x = Edges.settled(1, 0);
        x.setLoads(0, 4);
        Edges.accesses(x, 5, 2);
        Edges.accesses(x, 6, 2);
        e.due("tick(), load 4", x.tick(), 0);
        x.access(6);
        e.due("tick(), load 5", x.tick(), 500);
        RangeScheduler y = Edges.settled(1, 0);
        y.addNode(1, 16);
        y.setReplication(2);
        y.setLoads(0, 1);
        y.put(5, 60);
        y.tick();
        y.access(5);
        y.access(6);
        e.due("tick(), a learner", y.tick(), 0);
        y.setNode(1, 0);
        e.due("tick(), the learner being lost", y.tick(), 500);

        e.sentence(13, "it has a load split key, and there are fewer than 16 ranges: the range is split there.");
        RangeScheduler none = new RangeScheduler();
        none.setLoads(0, 1);
        none.access(5);
        none.access(6);
        e.due("tick(), not available", none.tick(), 500);
        RangeScheduler z = Edges.settled(1, 0);
        z.setLoads(0, 1);
        Edges.accesses(z, 5, 9);
        e.due("tick(), one key", z.tick(), 0);
        z.access(9);
        e.due("splitKey(0, 1)", z.splitKey(0, 1), 9);
        e.due("tick(), two keys", z.tick(), 500);
        e.due("start(1), at the key", z.start(1), 9);
        e.due("tick(), one key in each", z.tick(), 0);
    }

    private void splitLoadAtSixteen() {
        e.sentence(13, "and there are fewer than 16 ranges: the range is split there.");
        RangeScheduler x = Edges.settled(1, 0);
        for (int i = 1; i < 15; i++) {
            x.splitAt(9000 + i);
        }
        x.setLoads(0, 1);
        x.access(5);
        x.access(6);
        e.due("tick(), 15 ranges", x.tick(), 500);
        x.access(4);
        e.due("rangeCount()", x.rangeCount(), 16);
        e.due("load(0)", x.load(0), 2);
        e.due("tick(), 16 ranges", x.tick(), 0);
    }

    private void splitKeepsVoters() {
        e.sentence(13, "To split a range at a key means that the keys from this key on become a new range, with the same voters "
                + "and the same leader.");
        RangeScheduler x = Edges.settled(3, 0, 1, 2);
        x.setNode(0, 0);
        x.setNode(0, 1);
        x.put(5, 60);
        x.put(50, 60);
        e.due("tick()", x.tick(), 400);
        e.due("rangeOf(49)", x.rangeOf(49), 0);
        e.due("rangeOf(50)", x.rangeOf(50), 1);
        e.due("voters(0)", x.voters(0), 7);
        e.due("voters(1)", x.voters(1), 7);
        e.due("leader(0)", x.leader(0), 1);
        e.due("leader(1)", x.leader(1), 1);
        RangeScheduler y = new RangeScheduler();
        y.put(5, 60);
        y.put(50, 60);
        e.due("tick(), without voters", y.tick(), 400);
        e.due("voters(1), without voters", y.voters(1), 0);
        e.due("leader(1), without voters", y.leader(1), NONE);

        e.sentence(11, "(Afterwards no leaders are elected.)");
        RangeScheduler z = Edges.settled(3, 0, 1, 2);
        Edges.split(z, 10, 20);
        for (int range = 0; range < 3; range++) {
            e.due("leader(" + range + "), though 1 and 2 lead none", z.leader(range), 0);
        }
        e.due("tick(), which shifts a leader", z.tick(), 700);
        e.due("leader(0)", z.leader(0), 1);
    }

    private void mergeOfLast() {
        e.sentence(13, "- MERGE (6): the range is not the last one");
        RangeScheduler x = Edges.settled(1, 0);
        x.setSizes(20, 100);
        e.due("tick(), one range", x.tick(), 0);
        x.splitAt(9999);
        e.due("tick(), two ranges", x.tick(), 600);
        e.due("tick(), one range again", x.tick(), 0);
        Edges.split(x, 10, 20);
        x.put(5, 20);
        e.due("tick(), the last but one of three", x.tick(), 601);
        e.due("tick(), the second being the last", x.tick(), 0);
        e.due("start(1)", x.start(1), 10);
        e.due("rangeOf(9999)", x.rangeOf(9999), 1);
    }

    /** Two ranges with the voter 0, each with an item of 15 at speed 1, and learners on 1 and 2. */
    private RangeScheduler withTwoLearners() {
        RangeScheduler x = Edges.settled(1, 0);
        x.splitAt(10);
        x.setSpeed(1);
        x.put(5, 15);
        x.put(15, 15);
        x.addNode(0, 16);
        x.addNode(0, 16);
        x.setReplication(2);
        e.due("tick()", x.tick(), 200);
        e.due("tick()", x.tick(), 201);
        e.due("learner(0)", x.learner(0), 1501);
        e.due("learner(1)", x.learner(1), 1602);
        x.setReplication(1);
        x.setSizes(20, 100);
        return x;
    }

    private void mergeWithoutLearner() {
        e.sentence(13, "neither it nor the next range has a learner");
        RangeScheduler x = withTwoLearners();
        e.due("tick(), learners in both", x.tick(), 0);
        x.setNode(1, 0);
        e.due("tick(), a learner in the next", x.tick(), 0);
        x.setNode(2, 0);
        e.due("tick(), learners in none", x.tick(), 600);
        RangeScheduler y = withTwoLearners();
        y.setNode(2, 0);
        e.due("tick(), a learner in the first", y.tick(), 0);
        y.setNode(1, 0);
        e.due("tick(), learners in none", y.tick(), 600);
    }

    private void mergeOfSameVoters() {
        e.sentence(13, "both have the same voters and are available");
        RangeScheduler x = Edges.nodes(0, 0);
        x.setReplication(1);
        x.splitAt(10);
        x.tick();
        x.tick();
        e.due("voters(0)", x.voters(0), 1);
        e.due("voters(1)", x.voters(1), 2);
        e.due("tick(), other voters", x.tick(), 0);
        RangeScheduler y = Edges.settled(2, 0, 1);
        y.splitAt(10);
        y.setSizes(20, 100);
        y.setNode(1, 0);
        e.due("tick(), the same voters, not available", y.tick(), 0);
        y.setNode(1, 1);
        e.due("tick(), the same voters, available", y.tick(), 600);
        // One has a voter more than the other.
        RangeScheduler z = Edges.settled(1, 0);
        z.splitAt(10);
        z.addNode(1, 16);
        z.setReplication(2);
        e.due("tick()", z.tick(), 200);
        z.setReplication(1);
        z.setSizes(20, 100);
        e.due("tick(), a voter more: a leader is shifted", z.tick(), 700);
        e.due("tick(), a voter more", z.tick(), 0);
        RangeScheduler w = new RangeScheduler();
        w.splitAt(10);
        e.due("tick(), no voters", w.tick(), 0);
    }

    private void mergeOfSmall() {
        e.sentence(13, "the size of each is less than the minimum size and the load of each is less than the minimum load");
        for (int key : new int[] {5, 15}) {
            RangeScheduler x = Edges.settled(1, 0);
            x.splitAt(10);
            x.setSizes(7, 100);
            x.setLoads(3, 16);
            x.put(key, 7);
            e.due("tick(), size 7 of " + key + " for a minimum of 7", x.tick(), 0);
            x.put(key, 6);
            Edges.accesses(x, key, 3);
            e.due("tick(), load 3 of " + key + " for a minimum of 3", x.tick(), 0);
            x.undo();
            x.undo();
            e.due("tick(), size 6 and load 2 of " + key, x.tick(), 600);
        }
    }

    private void mergeOfFittingSum() {
        e.sentence(13, "and their sizes together are not greater than the maximum size");
        RangeScheduler x = Edges.settled(1, 0);
        x.splitAt(10);
        x.put(5, 15);
        x.put(15, 14);
        x.setSizes(20, 28);
        e.due("tick(), 29 for a maximum of 28", x.tick(), 0);
        x.setSizes(20, 29);
        e.due("tick(), 29 for a maximum of 29", x.tick(), 600);
        e.due("size(0)", x.size(0), 29);
    }

    private void mergeKeepsLeader() {
        e.sentence(13, "the next range is merged into the range, whose leader stays.");
        RangeScheduler x = Edges.settled(2, 0, 1);
        Edges.split(x, 10, 20);
        x.settle(9);
        e.due("leader(0)", x.leader(0), 1);
        e.due("leader(1)", x.leader(1), 0);
        e.due("leader(2)", x.leader(2), 0);
        x.put(25, 20);
        x.put(15, 3);
        x.access(15);
        x.setSizes(20, 100);
        e.due("tick()", x.tick(), 600);
        e.due("rangeCount()", x.rangeCount(), 2);
        e.due("leader(0), of the first", x.leader(0), 1);
        e.due("leader(1), of the range beside them", x.leader(1), 0);
        e.due("start(0)", x.start(0), 0);
        e.due("start(1)", x.start(1), 20);
        e.due("rangeOf(19)", x.rangeOf(19), 0);
        e.due("size(0)", x.size(0), 3);
        e.due("load(0)", x.load(0), 1);
        e.due("size(1)", x.size(1), 20);
        e.due("leaders(0)", x.leaders(0), 1);
        e.due("leaders(1)", x.leaders(1), 1);
        RangeScheduler y = Edges.settled(2, 0, 1);
        y.splitAt(10);
        y.tick();
        y.setSizes(1, 100);
        e.due("tick()", y.tick(), 600);
        e.due("leader(0), though an election would choose 0", y.leader(0), 1);
    }

    private void shiftLeader() {
        e.sentence(13, "- SHIFT_LEADER (7): the range has a leader a, and it has a voter that is up and is the leader of at least "
                + "2 ranges fewer than a");
        RangeScheduler x = Edges.settled(2, 0, 1);
        e.due("tick(), 1 and 0", x.tick(), 0);
        x.splitAt(10);
        e.due("tick(), 2 and 0", x.tick(), 700);
        e.due("tick(), 1 and 1", x.tick(), 0);
        x.splitAt(20);
        e.due("leaders(0)", x.leaders(0), 2);
        e.due("tick(), 2 and 1", x.tick(), 0);
        x.splitAt(30);
        e.due("tick(), 3 and 1", x.tick(), 701);
        e.due("leader(1)", x.leader(1), 1);
        // A voter that is down is none of them, and a node that is no voter neither.
        RangeScheduler y = Edges.settled(3, 0, 1, 2);
        y.splitAt(10);
        y.setNode(1, 0);
        e.due("tick(), 1 being down", y.tick(), 700);
        e.due("leader(0)", y.leader(0), 2);
        RangeScheduler z = Edges.settled(1, 0);
        z.splitAt(10);
        z.addNode(0, 1);
        z.addNode(0, 1);
        z.setNode(1, 0);
        z.setNode(2, 0);
        e.due("tick(), one voter", z.tick(), 0);
        // No leader: nodes 0 and 1 would be uneven if the lost leaders still counted.
        RangeScheduler w = Edges.settled(2, 0, 1);
        w.splitAt(10);
        w.setNode(1, 0);
        e.due("leader(0)", w.leader(0), NONE);
        e.due("tick(), no leaders", w.tick(), 0);
        w.setNode(1, 1);
        e.due("tick(), a leader for each", w.tick(), 0);
    }

    private void shiftLeaderToWhom() {
        e.sentence(13, "the leader becomes, of these voters, the one that is the leader of the fewest ranges, of several the one "
                + "with the lowest number.");
        RangeScheduler x = Edges.settled(3, 0, 1, 2);
        Edges.split(x, 10);
        x.tick();
        e.due("leader(0), 1 and 2 leading none", x.leader(0), 1);
        Edges.split(x, 20, 30);
        e.due("leaders(0)", x.leaders(0), 3);
        e.due("leaders(1)", x.leaders(1), 1);
        e.due("leaders(2)", x.leaders(2), 0);
        e.due("tick()", x.tick(), 701);
        e.due("leader(1), 2 leading fewer than 1", x.leader(1), 2);
        e.due("tick()", x.tick(), 0);
        Edges.split(x, 40);
        e.due("tick(), 3, 1 and 1", x.tick(), 702);
        e.due("leader(2), the lower of 1 and 2", x.leader(2), 1);
    }

    /** Two ranges on nodes 0, 1 and 2 that are led by 1 and 0, and R = 1, so that nothing is repaired. */
    private RangeScheduler balanced() {
        RangeScheduler x = Edges.settled(3, 0, 1, 2);
        x.splitAt(10);
        x.settle(9);
        x.setReplication(1);
        return x;
    }

    private void shiftReplicaOfWhole() {
        e.sentence(13, "- SHIFT_REPLICA (8): the range is available, all its voters are up, it has no learner");
        RangeScheduler x = balanced();
        x.setNode(2, 0);
        x.addNode(3, 16);
        e.due("tick(), 2 of 3 being up", x.tick(), 0);
        x.setNode(2, 1);
        e.due("tick(), 3 of 3 being up", x.tick(), 800);
        RangeScheduler y = Edges.settled(1, 0);
        Edges.split(y, 10, 20, 30, 40);
        for (int i = 0; i < 5; i++) {
            y.put(10 * i, 30);
        }
        y.addNode(0, 16);
        e.due("tick(), no learner", y.tick(), 800);
        e.due("learner(0)", y.learner(0), 401);
        e.due("tick(), a learner in range 0", y.tick(), 801);
        e.due("learner(0)", y.learner(0), 301);
        e.due("replicas(0)", y.replicas(0), 5);
        e.due("replicas(1)", y.replicas(1), 2);
        RangeScheduler z = new RangeScheduler();
        z.addNode(0, 1);
        z.setNode(0, 0);
        e.due("tick(), no voters", z.tick(), 0);
    }

    private void shiftReplicaFromWhom() {
        e.sentence(13, "with v, the voter with the most replicas (of several the one with the lowest number), as the one to be "
                + "replaced, a node can be chosen");
        RangeScheduler x = balanced();
        e.due("tick(), no node", x.tick(), 0);
        RangeScheduler full = Edges.settled(1, 0);
        Edges.split(full, 10, 20, 30, 40);
        for (int i = 0; i < 5; i++) {
            full.put(10 * i, 90);
        }
        full.addNode(0, 2);
        e.due("tick(), a node with room", full.tick(), 800);
        e.due("tick(), a node with room", full.tick(), 801);
        e.due("tick(), a full node, though it has 3 replicas fewer", full.tick(), 0);
        // A node that is no voter of the range has the most replicas.
        RangeScheduler other = new RangeScheduler();
        other.addNode(0, 1);
        other.addNode(0, 16);
        other.setReplication(1);
        other.setSizes(0, 100);
        Edges.split(other, 10, 20, 30);
        other.settle(4);
        e.due("replicas(1)", other.replicas(1), 3);
        other.addNode(0, 16);
        e.due("tick(), node 0 of range 0 having one, node 1 of range 1 three", other.tick(), 801);
        x.addNode(3, 16);
        e.due("tick(), a node", x.tick(), 800);
        x.tick();
        e.due("voters(0), 3 for the lowest of 0, 1 and 2", x.voters(0), 14);
        // Node 1 has a replica more than node 0.
        RangeScheduler y = new RangeScheduler();
        y.addNode(0, 1);
        y.addNode(1, 16);
        y.setReplication(1);
        y.setSizes(0, 100);
        Edges.split(y, 10, 20);
        y.settle(3);
        e.due("voters(0)", y.voters(0), 1);
        e.due("voters(1)", y.voters(1), 2);
        e.due("voters(2)", y.voters(2), 2);
        y.setReplication(2);
        e.due("tick(), node 1 for range 0", y.tick(), 200);
        y.setReplication(1);
        e.due("tick()", y.tick(), 0);
        e.due("voters(0)", y.voters(0), 3);
        e.due("replicas(0)", y.replicas(0), 1);
        e.due("replicas(1)", y.replicas(1), 3);
        y.addNode(2, 16);
        e.due("tick()", y.tick(), 800);
        y.tick();
        e.due("voters(0), 2 for 1", y.voters(0), 5);
    }

    private void shiftReplicaByTwo() {
        e.sentence(13, "and the chosen node has at least 2 replicas fewer than v");
        RangeScheduler x = Edges.settled(1, 0);
        x.addNode(0, 16);
        e.due("tick(), 1 and 0", x.tick(), 0);
        x.splitAt(10);
        e.due("tick(), 2 and 0", x.tick(), 800);
        x.tick();
        e.due("replicas(0)", x.replicas(0), 1);
        e.due("replicas(1)", x.replicas(1), 1);
        e.due("tick(), 1 and 1", x.tick(), 0);
        x.splitAt(5);
        e.due("replicas(1)", x.replicas(1), 2);
        e.due("tick(), 2 and 1", x.tick(), 0);
        x.splitAt(7);
        e.due("replicas(1)", x.replicas(1), 3);
        e.due("tick(), 3 and 1", x.tick(), 800);
        e.due("learner(0)", x.learner(0), 100);
    }

    private void shiftReplicaToZone() {
        e.sentence(13, "and is fresh or in the zone of v: it becomes the learner with 1 + size / speed remaining ticks, and v is to "
                + "be replaced.");
        for (int zone = 0; zone < 4; zone++) {
            RangeScheduler x = balanced();
            x.addNode(zone, 16);
            boolean fit = zone == 0 || zone == 3;
            e.due("tick(), a node in zone " + zone + " for node 0 of the zones 0, 1, 2", x.tick(), fit ? 800 : 0);
            e.due("learner(0)", x.learner(0), fit ? 103 : NONE);
            e.due("voters(0), not yet", x.voters(0), 7);
            x.tick();
            e.due("voters(0)", x.voters(0), fit ? 14 : 7);
        }
        // Not fresh, as node 1 is in zone 0, too, but in the zone of v.
        RangeScheduler y = Edges.settled(2, 0, 0);
        y.splitAt(10);
        y.tick();
        y.addNode(0, 16);
        e.due("tick(), not fresh, in the zone of v", y.tick(), 800);
        e.due("learner(0)", y.learner(0), 102);
        // Not fresh, as nodes 1 and 2 are in zone 0, and not in zone 1, that of v.
        RangeScheduler z = Edges.settled(3, 1, 0, 0);
        z.setReplication(1);
        z.splitAt(10);
        z.settle(9);
        z.addNode(0, 16);
        e.due("tick(), neither fresh nor in the zone of v", z.tick(), 0);
        z.addNode(1, 16);
        e.due("tick(), fresh and in the zone of v", z.tick(), 800);
        e.due("learner(0)", z.learner(0), 104);
    }
}
