/** The actions of a tick: for each what it does, and each part of its condition. */
public final class ActionsTest {
    private static final int NONE = -1;
    private static final Checks checks = new Checks();

    public static void main(String[] args) {
        create();
        createNeedsACandidate();
        repairChoosesFreshThenFewestThenLowest();
        repairReplacesTheLowestDownVoter();
        repairNeedsAvailability();
        repairStopsAtTheFactor();
        learnerWaitsWithoutALeader();
        replacedLeaderIsFollowed();
        spread();
        spreadNeedsAFreshNode();
        spreadNeedsAllVotersUp();
        spreadReplacesTheLastNode();
        splitSize();
        splitSizeNeedsRoomAndNoLearner();
        splitLoad();
        splitLoadNeedsRoomAndNoLearner();
        merge();
        mergeNeedsSmallSizes();
        mergeNeedsSmallLoads();
        mergeNeedsTheSumToFit();
        mergeNeedsTheSameVoters();
        mergeNeedsAvailability();
        mergeKeepsTheLeader();
        shiftLeader();
        shiftLeaderTakesTheFewest();
        shiftReplica();
        shiftReplicaNeedsAFitZone();
        shiftReplicaNeedsACandidate();
        orderOfActions();
        electionCountsOtherRanges();
        checks.end();
    }

    private static void due(String call, long got, long want) {
        checks.due(call, got, want);
    }

    private static RangeScheduler nodes(int... zones) {
        RangeScheduler x = new RangeScheduler();
        for (int zone : zones) {
            x.addNode(zone, 16);
        }
        return x;
    }

    /** Settled, so that the one range has as many voters as it can get. */
    private static RangeScheduler settled(int replication, int... zones) {
        RangeScheduler x = nodes(zones);
        x.setReplication(replication);
        x.settle(200);
        return x;
    }

    private static void create() {
        RangeScheduler x = nodes(0, 0, 0);
        x.splitAt(100);
        x.splitAt(200);
        due("create: tick()", x.tick(), 100);
        due("create: voters(0)", x.voters(0), 1);
        due("create: leader(0)", x.leader(0), 0);
        due("create: tick(), before any repair", x.tick(), 101);
        due("create: voters(1), on the node with the fewest replicas", x.voters(1), 2);
        due("create: leader(1)", x.leader(1), 1);
        due("create: tick()", x.tick(), 102);
        due("create: voters(2)", x.voters(2), 4);
    }

    private static void createNeedsACandidate() {
        RangeScheduler x = new RangeScheduler();
        x.addNode(0, 1);
        x.splitAt(100);
        x.setNode(0, 0);
        due("create: tick(), the node being down", x.tick(), 0);
        x.setNode(0, 1);
        due("create: tick()", x.tick(), 100);
        due("create: tick(), the node being full", x.tick(), 0);
        due("create: voters(1)", x.voters(1), 0);
    }

    private static void repairChoosesFreshThenFewestThenLowest() {
        RangeScheduler x = nodes(0, 0, 1, 1);
        x.tick();
        due("repair: tick()", x.tick(), 200);
        due("repair: learner(0), the lowest fresh one", x.learner(0), 102);
        due("repair: tick()", x.tick(), 200);
        due("repair: learner(0), none being fresh", x.learner(0), 101);
        x.tick();
        due("repair: voters(0)", x.voters(0), 7);
        RangeScheduler y = nodes(0, 1, 1);
        y.setReplication(1);
        y.splitAt(100);
        y.tick();
        y.tick();
        due("repair: voters(1)", y.voters(1), 2);
        y.setReplication(2);
        due("repair: tick()", y.tick(), 200);
        due("repair: learner(0), the fresh one with the fewest replicas", y.learner(0), 102);
    }

    private static void repairReplacesTheLowestDownVoter() {
        RangeScheduler x = settled(5, 0, 1, 2, 3, 0);
        due("repair: voters(0)", x.voters(0), 31);
        x.addNode(1, 16);
        x.addNode(3, 16);
        x.setNode(1, 0);
        x.setNode(3, 0);
        due("repair: tick()", x.tick(), 200);
        due("repair: learner(0), fresh but for the replaced one", x.learner(0), 105);
        x.tick();
        due("repair: voters(0)", x.voters(0), 32 + 16 + 8 + 4 + 1);
        due("repair: learner(0)", x.learner(0), 106);
    }

    private static void repairNeedsAvailability() {
        RangeScheduler x = settled(2, 0, 1);
        x.addNode(2, 16);
        x.setNode(0, 0);
        due("repair: tick(), 1 of 2 being up", x.tick(), 0);
        x.setNode(0, 1);
        due("repair: tick()", x.tick(), 0);
    }

    private static void repairStopsAtTheFactor() {
        RangeScheduler x = settled(3, 0, 1, 2, 3);
        due("repair: voters(0)", x.voters(0), 7);
        x.setReplication(2);
        x.setNode(2, 0);
        due("repair: tick(), 2 being up", x.tick(), 0);
        x.setReplication(3);
        due("repair: tick()", x.tick(), 200);
        due("repair: learner(0)", x.learner(0), 103);
        x.setNode(2, 1);
        x.tick();
        due("repair: voters(0), though the replaced one is up again", x.voters(0), 11);
    }

    private static void learnerWaitsWithoutALeader() {
        RangeScheduler x = settled(3, 0, 1, 2, 3);
        x.put(5, 30);
        x.setNode(0, 0);
        x.tick();
        due("learner: learner(0)", x.learner(0), 403);
        x.setNode(1, 0);
        x.tick();
        due("learner: learner(0), without a leader", x.learner(0), 403);
        x.setNode(1, 1);
        x.tick();
        due("learner: learner(0)", x.learner(0), 303);
    }

    private static void replacedLeaderIsFollowed() {
        RangeScheduler x = settled(1, 0);
        x.addNode(0, 16);
        x.setSizes(0, 9999);
        x.splitAt(10);
        x.splitAt(20);
        due("replaced: tick()", x.tick(), 800);
        due("replaced: learner(0)", x.learner(0), 101);
        x.tick();
        due("replaced: voters(0)", x.voters(0), 2);
        due("replaced: leader(0)", x.leader(0), 1);
        due("replaced: leaders(0)", x.leaders(0), 2);
    }

    private static void spread() {
        RangeScheduler x = settled(4, 0, 0, 1, 1);
        due("spread: voters(0)", x.voters(0), 15);
        x.addNode(1, 16);
        x.addNode(2, 16);
        x.put(1, 45);
        due("spread: tick()", x.tick(), 300);
        due("spread: learner(0)", x.learner(0), 505);
        x.settle(200);
        due("spread: voters(0), the highest being replaced", x.voters(0), 1 + 2 + 4 + 32);
        due("spread: performed(3)", x.performed(3), 1);
        x.addNode(3, 16);
        due("spread: tick()", x.tick(), 300);
        x.settle(200);
        due("spread: voters(0), 1 being in the zone of 0", x.voters(0), 1 + 4 + 32 + 64);
    }

    private static void spreadNeedsAFreshNode() {
        RangeScheduler x = settled(2, 0, 0);
        x.addNode(0, 16);
        due("spread: tick(), all in one zone", x.tick(), 0);
        x.addNode(1, 1);
        due("spread: tick()", x.tick(), 300);
        RangeScheduler y = settled(2, 0, 0);
        y.addNode(1, 1);
        y.setNode(2, 0);
        due("spread: tick(), the fresh node being down", y.tick(), 0);
    }

    private static void spreadNeedsAllVotersUp() {
        RangeScheduler x = settled(3, 0, 0, 0);
        x.setReplication(1);
        x.setNode(0, 0);
        x.addNode(1, 16);
        due("spread: tick(), a voter being down", x.tick(), 0);
        x.setNode(0, 1);
        due("spread: tick()", x.tick(), 300);
    }

    private static void spreadReplacesTheLastNode() {
        RangeScheduler x = nodes(0, 1, 0);
        x.setReplication(2);
        x.setNode(1, 0);
        x.settle(200);
        due("spread: voters(0)", x.voters(0), 5);
        x.setNode(1, 1);
        due("spread: tick()", x.tick(), 300);
        x.tick();
        due("spread: voters(0)", x.voters(0), 3);
    }

    private static void splitSize() {
        RangeScheduler x = settled(1, 0);
        x.put(10, 50);
        x.put(20, 50);
        due("split by size: tick(), at the maximum", x.tick(), 0);
        x.put(30, 1);
        due("split by size: tick()", x.tick(), 400);
        due("split by size: start(1)", x.start(1), 30);
        x.setSizes(0, 49);
        due("split by size: tick()", x.tick(), 400);
        due("split by size: start(1)", x.start(1), 20);
        due("split by size: tick(), no range with two items", x.tick(), 0);
    }

    private static void splitSizeNeedsRoomAndNoLearner() {
        RangeScheduler x = nodes(0);
        x.setReplication(1);
        for (int i = 1; i < 15; i++) {
            x.splitAt(9000 + i);
        }
        x.put(1, 60);
        x.put(2, 60);
        x.put(3, 60);
        x.setSizes(0, 100);
        for (int i = 0; i < 15; i++) {
            due("split by size: tick(), which creates", x.tick(), 100 + i);
        }
        due("split by size: tick()", x.tick(), 400);
        due("split by size: tick(), with 16 ranges", x.tick(), 0);
        due("split by size: size(0)", x.size(0), 120);
        RangeScheduler y = nodes(0, 1);
        y.tick();
        y.put(1, 90);
        y.put(2, 90);
        due("split by size: tick(), which repairs", y.tick(), 200);
        due("split by size: tick(), with a learner", y.tick(), 0);
        RangeScheduler z = new RangeScheduler();
        z.put(1, 90);
        z.put(2, 90);
        due("split by size: tick(), without voters", z.tick(), 400);
        due("split by size: voters(1)", z.voters(1), 0);
        due("split by size: leader(1)", z.leader(1), NONE);
    }

    private static void splitLoad() {
        RangeScheduler x = settled(1, 0);
        x.setLoads(0, 3);
        x.access(50);
        x.access(50);
        x.access(40);
        due("split by load: tick(), at the maximum", x.tick(), 0);
        x.access(50);
        due("split by load: tick()", x.tick(), 500);
        due("split by load: start(1)", x.start(1), 50);
        x.access(60);
        due("split by load: tick()", x.tick(), 501);
        due("split by load: start(2)", x.start(2), 60);
        due("split by load: tick()", x.tick(), 0);
        x.access(55);
        due("split by load: tick()", x.tick(), 501);
        due("split by load: start(2)", x.start(2), 55);
    }

    private static void splitLoadNeedsRoomAndNoLearner() {
        RangeScheduler x = new RangeScheduler();
        x.setLoads(0, 1);
        for (int i = 1; i < 15; i++) {
            x.splitAt(9000 + i);
        }
        x.access(1);
        x.access(2);
        x.access(2);
        x.access(3);
        due("split by load: tick()", x.tick(), 500);
        due("split by load: rangeCount()", x.rangeCount(), 16);
        due("split by load: load(1)", x.load(1), 1);
        x.access(4);
        due("split by load: tick(), with 16 ranges", x.tick(), 0);
        RangeScheduler y = nodes(0, 1);
        y.setLoads(0, 1);
        y.tick();
        y.put(1, 20);
        due("split by load: tick(), which repairs", y.tick(), 200);
        y.access(1);
        y.access(2);
        due("split by load: tick(), with a learner", y.tick(), 0);
        due("split by load: tick(), with a learner", y.tick(), 0);
        due("split by load: tick()", y.tick(), 500);
    }

    private static void merge() {
        RangeScheduler x = settled(1, 0);
        x.splitAt(10);
        x.splitAt(20);
        x.put(5, 50);
        x.put(15, 3);
        x.put(25, 4);
        x.access(15);
        due("merge: tick(), the first range being too big", x.tick(), 601);
        due("merge: rangeCount()", x.rangeCount(), 2);
        due("merge: start(1)", x.start(1), 10);
        due("merge: size(1)", x.size(1), 7);
        due("merge: load(1)", x.load(1), 1);
        due("merge: tick()", x.tick(), 0);
    }

    private static void mergeNeedsSmallSizes() {
        for (int key : new int[] {5, 15}) {
            RangeScheduler x = settled(1, 0);
            x.splitAt(10);
            x.put(key, 20);
            due("merge: tick(), a size being the minimum", x.tick(), 0);
            x.put(key, 19);
            due("merge: tick()", x.tick(), 600);
        }
    }

    private static void mergeNeedsSmallLoads() {
        for (int key : new int[] {5, 15}) {
            RangeScheduler x = settled(1, 0);
            x.splitAt(10);
            x.access(key);
            x.access(key);
            due("merge: tick(), a load being the minimum", x.tick(), 0);
            x.setLoads(3, 16);
            due("merge: tick()", x.tick(), 600);
        }
    }

    private static void mergeNeedsTheSumToFit() {
        RangeScheduler x = settled(1, 0);
        x.splitAt(10);
        x.put(5, 15);
        x.put(15, 15);
        x.setSizes(20, 29);
        due("merge: tick(), the sum being too big", x.tick(), 0);
        x.setSizes(20, 30);
        due("merge: tick()", x.tick(), 600);
    }

    private static void mergeNeedsTheSameVoters() {
        RangeScheduler x = nodes(0, 0);
        x.setReplication(1);
        x.splitAt(10);
        x.tick();
        x.tick();
        due("merge: voters(1)", x.voters(1), 2);
        due("merge: tick(), the voters being others", x.tick(), 0);
    }

    private static void mergeNeedsAvailability() {
        RangeScheduler x = settled(2, 0, 1);
        x.splitAt(10);
        x.setNode(1, 0);
        due("merge: tick(), not available", x.tick(), 0);
        RangeScheduler y = new RangeScheduler();
        y.splitAt(10);
        due("merge: tick(), without voters", y.tick(), 0);
        x.setNode(1, 1);
        due("merge: tick()", x.tick(), 600);
    }

    private static void mergeKeepsTheLeader() {
        RangeScheduler x = settled(2, 0, 1);
        x.setSizes(0, 100);
        x.splitAt(10);
        due("merge: tick(), which shifts a leader", x.tick(), 700);
        due("merge: leader(0)", x.leader(0), 1);
        due("merge: leader(1)", x.leader(1), 0);
        x.setSizes(1, 100);
        due("merge: tick()", x.tick(), 600);
        due("merge: leader(0)", x.leader(0), 1);
        due("merge: leaders(0)", x.leaders(0), 0);
    }

    private static void shiftLeader() {
        RangeScheduler x = settled(3, 0, 1, 2);
        x.setSizes(0, 100);
        x.splitAt(10);
        x.splitAt(20);
        due("shift leader: tick()", x.tick(), 700);
        due("shift leader: leader(0), the lowest of several", x.leader(0), 1);
        due("shift leader: tick()", x.tick(), 701);
        due("shift leader: leader(1)", x.leader(1), 2);
        due("shift leader: tick()", x.tick(), 0);
        x.splitAt(30);
        due("shift leader: tick(), one fewer being too few", x.tick(), 0);
    }

    private static void shiftLeaderTakesTheFewest() {
        RangeScheduler x = settled(3, 0, 1, 2);
        x.setSizes(0, 100);
        x.splitAt(10);
        x.tick();
        due("shift leader: leader(0)", x.leader(0), 1);
        x.splitAt(20);
        x.splitAt(30);
        due("shift leader: leaders(0)", x.leaders(0), 3);
        due("shift leader: tick()", x.tick(), 701);
        due("shift leader: leader(1), the one with none", x.leader(1), 2);
        RangeScheduler y = settled(3, 0, 1, 2);
        y.setSizes(0, 100);
        y.splitAt(10);
        y.setNode(1, 0);
        due("shift leader: tick(), a voter being down", y.tick(), 700);
        due("shift leader: leader(0)", y.leader(0), 2);
    }

    private static void shiftReplica() {
        RangeScheduler x = settled(2, 0, 1);
        x.setSizes(0, 100);
        x.splitAt(10);
        due("shift replica: tick()", x.tick(), 700);
        x.addNode(2, 16);
        x.put(5, 10);
        due("shift replica: tick()", x.tick(), 800);
        due("shift replica: learner(0)", x.learner(0), 202);
        due("shift replica: replicas(2)", x.replicas(2), 1);
        due("shift replica: tick(), a learner being a replica", x.tick(), 0);
        x.tick();
        due("shift replica: voters(0), the lowest of several being replaced", x.voters(0), 6);
        due("shift replica: tick(), one fewer being too few", x.tick(), 0);
    }

    private static void shiftReplicaNeedsAFitZone() {
        RangeScheduler x = settled(2, 0, 1);
        x.setSizes(0, 100);
        x.splitAt(10);
        x.tick();
        x.addNode(1, 16);
        due("shift replica: tick(), in the zone of the other voter", x.tick(), 0);
        x.addNode(0, 16);
        due("shift replica: tick(), in the zone of the replaced one", x.tick(), 800);
        due("shift replica: learner(0)", x.learner(0), 103);
        RangeScheduler y = settled(2, 0, 0);
        y.setSizes(0, 100);
        y.splitAt(10);
        y.tick();
        y.addNode(0, 16);
        due("shift replica: tick(), not fresh, but in the zone of the replaced one", y.tick(), 800);
        due("shift replica: learner(0)", y.learner(0), 102);
    }

    private static void shiftReplicaNeedsACandidate() {
        RangeScheduler x = settled(1, 0);
        x.setSizes(0, 100);
        x.splitAt(10);
        x.splitAt(20);
        x.put(5, 50);
        x.put(15, 50);
        x.addNode(0, 2);
        due("shift replica: tick()", x.tick(), 800);
        due("shift replica: tick()", x.tick(), 801);
        due("shift replica: tick(), the other node being full", x.tick(), 0);
        due("shift replica: performed(8)", x.performed(8), 2);
    }

    private static void orderOfActions() {
        RangeScheduler x = nodes(0, 0);
        x.setReplication(2);
        x.put(1, 60);
        x.put(2, 60);
        x.splitAt(9000);
        x.splitAt(9500);
        due("order: tick()", x.tick(), 100);
        due("order: tick()", x.tick(), 101);
        due("order: tick()", x.tick(), 102);
        due("order: tick()", x.tick(), 200);
        due("order: tick()", x.tick(), 201);
        due("order: tick()", x.tick(), 202);
        x.addNode(1, 16);
        due("order: tick()", x.tick(), 301);
        due("order: tick()", x.tick(), 302);
    }

    private static void electionCountsOtherRanges() {
        RangeScheduler x = settled(3, 0, 1, 2);
        x.setSizes(0, 100);
        for (int i = 1; i < 6; i++) {
            x.splitAt(10 * i);
        }
        x.settle(200);
        for (int node = 0; node < 3; node++) {
            due("election: leaders(node)", x.leaders(node), 2);
        }
        x.setNode(0, 0);
        due("election: leaders(1)", x.leaders(1), 3);
        due("election: leaders(2)", x.leaders(2), 3);
        x.setNode(1, 0);
        due("election: leaders(2), as no range is available", x.leaders(2), 0);
        due("election: setNode(1, 1)", x.setNode(1, 1), 6);
        for (int range = 0; range < 6; range++) {
            due("election: leader(range), in turns", x.leader(range), 1 + range % 2);
        }
    }
}
