/** The five examples of the document. */
public final class ExamplesTest {
    private static final Checks checks = new Checks();

    public static void main(String[] args) {
        rangeGetsItsVoters();
        splitBySize();
        leadersWhenNodesGoDown();
        errorsAndNoNodes();
        splitByLoad();
        checks.end();
    }

    private static void rangeGetsItsVoters() {
        RangeScheduler x = new RangeScheduler();
        checks.due("1: addNode(0, 16)", x.addNode(0, 16), 0);
        checks.due("1: addNode(1, 16)", x.addNode(1, 16), 1);
        checks.due("1: tick()", x.tick(), 100);
        checks.due("1: voters(0)", x.voters(0), 1);
        checks.due("1: leader(0)", x.leader(0), 0);
        checks.due("1: tick()", x.tick(), 200);
        checks.due("1: learner(0)", x.learner(0), 101);
        checks.due("1: tick()", x.tick(), 0);
        checks.due("1: voters(0)", x.voters(0), 3);
        checks.due("1: tick()", x.tick(), 0);
        checks.due("1: performed(2)", x.performed(2), 1);
    }

    private static void splitBySize() {
        RangeScheduler x = new RangeScheduler();
        checks.due("2: addNode(0, 16)", x.addNode(0, 16), 0);
        checks.due("2: setReplication(1)", x.setReplication(1), 3);
        checks.due("2: tick()", x.tick(), 100);
        checks.due("2: put(0, 40)", x.put(0, 40), 0);
        checks.due("2: put(100, 40)", x.put(100, 40), 0);
        checks.due("2: put(200, 40)", x.put(200, 40), 0);
        checks.due("2: splitKey(0, 0)", x.splitKey(0, 0), 200);
        checks.due("2: tick()", x.tick(), 400);
        checks.due("2: start(1)", x.start(1), 200);
        checks.due("2: size(0)", x.size(0), 80);
        checks.due("2: size(1)", x.size(1), 40);
    }

    private static void leadersWhenNodesGoDown() {
        RangeScheduler x = new RangeScheduler();
        checks.due("3: addNode(0, 16)", x.addNode(0, 16), 0);
        checks.due("3: addNode(1, 16)", x.addNode(1, 16), 1);
        checks.due("3: addNode(2, 16)", x.addNode(2, 16), 2);
        checks.due("3: settle(30)", x.settle(30), 4);
        checks.due("3: leader(0)", x.leader(0), 0);
        checks.due("3: setNode(0, 0)", x.setNode(0, 0), 1);
        checks.due("3: leader(0)", x.leader(0), 1);
        checks.due("3: setNode(1, 0)", x.setNode(1, 0), 0);
        checks.due("3: isAvailable(0)", x.isAvailable(0), 0);
        checks.due("3: access(5)", x.access(5), -1);
    }

    private static void errorsAndNoNodes() {
        RangeScheduler x = new RangeScheduler();
        checks.due("4: setSizes(5, 4)", x.setSizes(5, 4), -2);
        checks.due("4: errorCount(0)", x.errorCount(0), 1);
        checks.due("4: splitAt(0)", x.splitAt(0), -3);
        checks.due("4: errorCount(1)", x.errorCount(1), 1);
        checks.due("4: tick()", x.tick(), 0);
        checks.due("4: rangeCount()", x.rangeCount(), 1);
        checks.due("4: rangeOf(9999)", x.rangeOf(9999), 0);
    }

    private static void splitByLoad() {
        RangeScheduler x = new RangeScheduler();
        checks.due("5: addNode(0, 16)", x.addNode(0, 16), 0);
        checks.due("5: setReplication(1)", x.setReplication(1), 3);
        checks.due("5: setLoads(0, 2)", x.setLoads(0, 2), 16);
        checks.due("5: tick()", x.tick(), 100);
        checks.due("5: access(10)", x.access(10), 0);
        checks.due("5: access(20)", x.access(20), 0);
        checks.due("5: access(30)", x.access(30), 0);
        checks.due("5: splitKey(0, 1)", x.splitKey(0, 1), 30);
        checks.due("5: tick()", x.tick(), 500);
        checks.due("5: start(1)", x.start(1), 30);
        checks.due("5: load(0)", x.load(0), 2);
        checks.due("5: load(1)", x.load(1), 1);
    }
}
