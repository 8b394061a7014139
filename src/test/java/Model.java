import java.util.ArrayDeque;
import java.util.ArrayList;
import java.util.Comparator;
import java.util.List;
import java.util.Optional;
import java.util.TreeMap;
import java.util.TreeSet;

/**
 * The document's words written down once more, in the plainest way and with the Java library,
 * to be compared with RangeScheduler on long runs of calls.
 */
final class Model {
    static final class Node {
        int zone;
        int capacity;
        boolean up = true;
    }

    static final class Range {
        int start;
        TreeSet<Integer> voters = new TreeSet<>();
        Integer leader;
        Integer learner;
        int remaining;
        Integer replaced;

        Range copy() {
            Range copy = new Range();
            copy.start = start;
            copy.voters = new TreeSet<>(voters);
            copy.leader = leader;
            copy.learner = learner;
            copy.remaining = remaining;
            copy.replaced = replaced;
            return copy;
        }
    }

    static final class State {
        List<Node> nodes = new ArrayList<>();
        List<Range> ranges = new ArrayList<>();
        TreeMap<Integer, Integer> items = new TreeMap<>();
        List<Integer> samples = new ArrayList<>();
        int r = 3;
        int minSize = 20;
        int maxSize = 100;
        int minLoad = 2;
        int maxLoad = 16;
        int speed = 10;
        int time;
        int[] performed = new int[9];

        State copy() {
            State copy = new State();
            for (Node node : nodes) {
                Node other = new Node();
                other.zone = node.zone;
                other.capacity = node.capacity;
                other.up = node.up;
                copy.nodes.add(other);
            }
            for (Range range : ranges) {
                copy.ranges.add(range.copy());
            }
            copy.items.putAll(items);
            copy.samples.addAll(samples);
            copy.r = r;
            copy.minSize = minSize;
            copy.maxSize = maxSize;
            copy.minLoad = minLoad;
            copy.maxLoad = maxLoad;
            copy.speed = speed;
            copy.time = time;
            copy.performed = performed.clone();
            return copy;
        }
    }

    private State s = new State();
    private final ArrayDeque<State> saved = new ArrayDeque<>();
    private final int[] errors = new int[3];

    Model() {
        s.ranges.add(new Range());
    }

    private int error(int code) {
        errors[-2 - code]++;
        return code;
    }

    private void save() {
        saved.addLast(s.copy());
        if (saved.size() > 4) {
            saved.removeFirst();
        }
    }

    private boolean noKey(int key) {
        return key < 0 || key > 9999;
    }

    private boolean noRange(int range) {
        return range < 0 || range >= s.ranges.size();
    }

    private boolean noNode(int node) {
        return node < 0 || node >= s.nodes.size();
    }

    private boolean up(int node) {
        return s.nodes.get(node).up;
    }

    private int zone(int node) {
        return s.nodes.get(node).zone;
    }

    int addNode(int zone, int capacity) {
        if (zone < 0 || zone > 3 || capacity < 1 || capacity > 16) return error(-2);
        if (s.nodes.size() == 8) return error(-4);
        save();
        Node node = new Node();
        node.zone = zone;
        node.capacity = capacity;
        s.nodes.add(node);
        return s.nodes.size() - 1;
    }

    int setNode(int node, int up) {
        if (noNode(node) || up < 0 || up > 1) return error(-2);
        if (up(node) == (up == 1)) return error(-3);
        save();
        s.nodes.get(node).up = up == 1;
        if (up == 0) {
            for (Range range : s.ranges) {
                if (range.learner != null && range.learner == node) dropLearner(range);
            }
            for (Range range : s.ranges) {
                if (!available(range)) range.leader = null;
                else if (range.leader != null && range.leader == node) elect(range);
            }
        } else {
            for (Range range : s.ranges) {
                if (range.leader == null) elect(range);
            }
        }
        int count = 0;
        for (Range range : s.ranges) {
            if (available(range)) count++;
        }
        return count;
    }

    int setReplication(int replicas) {
        if (replicas < 1 || replicas > 5) return error(-2);
        save();
        int previous = s.r;
        s.r = replicas;
        return previous;
    }

    int setSizes(int minimum, int maximum) {
        if (maximum < 1 || maximum > 9999 || minimum < 0 || minimum > maximum) return error(-2);
        save();
        int previous = s.maxSize;
        s.minSize = minimum;
        s.maxSize = maximum;
        return previous;
    }

    int setLoads(int minimum, int maximum) {
        if (maximum < 1 || maximum > 32 || minimum < 0 || minimum > maximum) return error(-2);
        save();
        int previous = s.maxLoad;
        s.minLoad = minimum;
        s.maxLoad = maximum;
        return previous;
    }

    int setSpeed(int speed) {
        if (speed < 1 || speed > 99) return error(-2);
        save();
        int previous = s.speed;
        s.speed = speed;
        return previous;
    }

    int put(int key, int size) {
        if (noKey(key) || size < 1 || size > 99) return error(-2);
        if (s.items.size() == 64 && !s.items.containsKey(key)) return error(-4);
        save();
        Integer previous = s.items.put(key, size);
        return previous == null ? 0 : previous;
    }

    int remove(int key) {
        if (noKey(key)) return error(-2);
        if (!s.items.containsKey(key)) return error(-3);
        save();
        return s.items.remove(key);
    }

    int access(int key) {
        if (noKey(key)) return error(-2);
        save();
        s.samples.add(key);
        if (s.samples.size() > 32) s.samples.remove(0);
        Integer leader = s.ranges.get(indexOf(key)).leader;
        return leader == null ? -1 : leader;
    }

    int splitAt(int key) {
        if (noKey(key)) return error(-2);
        Range range = s.ranges.get(indexOf(key));
        if (range.start == key || range.learner != null) return error(-3);
        if (s.ranges.size() == 16) return error(-4);
        save();
        split(range, key);
        return indexOf(key);
    }

    int sizeOf(int key) {
        return noKey(key) ? error(-2) : s.items.getOrDefault(key, 0);
    }

    int tick() {
        save();
        return runTick();
    }

    int settle(int ticks) {
        if (ticks < 1 || ticks > 200) return error(-2);
        save();
        for (int done = 1; done <= ticks; done++) {
            int result = runTick();
            if (result == 0 && s.ranges.stream().allMatch(range -> range.learner == null)) return done;
        }
        return ticks;
    }

    int performed(int action) {
        return action < 1 || action > 8 ? error(-2) : s.performed[action];
    }

    int time() {
        return s.time;
    }

    int rangeCount() {
        return s.ranges.size();
    }

    int start(int range) {
        return noRange(range) ? error(-2) : s.ranges.get(range).start;
    }

    int size(int range) {
        return noRange(range) ? error(-2) : sizeOf(s.ranges.get(range));
    }

    int load(int range) {
        return noRange(range) ? error(-2) : loadKeys(s.ranges.get(range)).size();
    }

    int rangeOf(int key) {
        return noKey(key) ? error(-2) : indexOf(key);
    }

    int voters(int range) {
        return noRange(range) ? error(-2) : maskOf(s.ranges.get(range));
    }

    int leader(int range) {
        return noRange(range) ? error(-2) : orNone(s.ranges.get(range).leader);
    }

    int learner(int range) {
        return noRange(range) ? error(-2) : learnerOf(s.ranges.get(range));
    }

    int isAvailable(int range) {
        return noRange(range) ? error(-2) : available(s.ranges.get(range)) ? 1 : 0;
    }

    int splitKey(int range, int kind) {
        if (noRange(range) || kind < 0 || kind > 1) return error(-2);
        return orNone(kind == 0 ? sizeSplitKey(s.ranges.get(range)) : loadSplitKey(s.ranges.get(range)));
    }

    int replicas(int node) {
        return noNode(node) ? error(-2) : replicasOf(node);
    }

    int leaders(int node) {
        return noNode(node) ? error(-2) : leadersOf(node, null);
    }

    int undo() {
        if (saved.isEmpty()) return error(-3);
        s = saved.removeLast();
        return saved.size();
    }

    int errorCount(int kind) {
        return kind < 0 || kind > 2 ? error(-2) : errors[kind];
    }

    long digest() {
        List<Integer> values = new ArrayList<>(List.of(errors[0], errors[1], errors[2], saved.size(), s.time,
                s.r, s.minSize, s.maxSize, s.minLoad, s.maxLoad));
        values.add(s.speed);
        values.add(s.nodes.size());
        for (int i = 0; i < s.nodes.size(); i++) {
            Node node = s.nodes.get(i);
            values.addAll(List.of(node.zone, node.capacity, node.up ? 1 : 0, replicasOf(i), leadersOf(i, null)));
        }
        values.add(s.ranges.size());
        for (Range range : s.ranges) {
            values.addAll(List.of(range.start, sizeOf(range), loadKeys(range).size(), maskOf(range),
                    orNone(range.leader), learnerOf(range), orNone(range.replaced),
                    orNone(sizeSplitKey(range)), orNone(loadSplitKey(range))));
        }
        values.add(s.samples.size());
        values.addAll(s.samples);
        for (int action = 1; action <= 8; action++) {
            values.add(s.performed[action]);
        }
        long h = 12532;
        for (int value : values) {
            h = 31 * h + value;
        }
        return h;
    }

    private static int orNone(Integer value) {
        return value == null ? -1 : value;
    }

    private int indexOf(int key) {
        int found = 0;
        for (int i = 0; i < s.ranges.size(); i++) {
            if (s.ranges.get(i).start <= key) found = i;
        }
        return found;
    }

    private int endOf(Range range) {
        int next = s.ranges.indexOf(range) + 1;
        return next < s.ranges.size() ? s.ranges.get(next).start : 10000;
    }

    private int sizeOf(Range range) {
        return s.items.subMap(range.start, endOf(range)).values().stream().mapToInt(Integer::intValue).sum();
    }

    private List<Integer> loadKeys(Range range) {
        int end = endOf(range);
        return s.samples.stream().filter(key -> key >= range.start && key < end).sorted().toList();
    }

    private static int maskOf(Range range) {
        return range.voters.stream().mapToInt(node -> 1 << node).sum();
    }

    private static int learnerOf(Range range) {
        return range.learner == null ? -1 : 100 * range.remaining + range.learner;
    }

    private int replicasOf(int node) {
        return (int) s.ranges.stream().filter(range -> range.voters.contains(node)
                || range.learner != null && range.learner == node).count();
    }

    private int leadersOf(int node, Range except) {
        return (int) s.ranges.stream().filter(range -> range != except && range.leader != null
                && range.leader == node).count();
    }

    private boolean available(Range range) {
        long ups = range.voters.stream().filter(this::up).count();
        return ups > range.voters.size() - ups;
    }

    private boolean allUp(Range range) {
        return range.voters.stream().allMatch(this::up);
    }

    private void elect(Range range) {
        range.leader = !available(range) ? null : range.voters.stream().filter(this::up)
                .min(Comparator.comparingInt((Integer node) -> leadersOf(node, range)).thenComparing(node -> node))
                .orElse(null);
    }

    private static void dropLearner(Range range) {
        range.learner = null;
        range.remaining = 0;
        range.replaced = null;
    }

    private boolean fresh(Range range, Integer v, int node) {
        for (int voter : range.voters) {
            if ((v == null || voter != v) && zone(voter) == zone(node)) return false;
        }
        return true;
    }

    private Integer choose(Range range, Integer v) {
        List<Integer> candidates = new ArrayList<>();
        for (int node = 0; node < s.nodes.size(); node++) {
            boolean full = replicasOf(node) >= s.nodes.get(node).capacity;
            boolean learner = range.learner != null && range.learner == node;
            if (up(node) && !full && !range.voters.contains(node) && !learner) candidates.add(node);
        }
        Optional<Integer> best = candidates.stream().min(
                Comparator.comparing((Integer node) -> !fresh(range, v, node))
                        .thenComparing(this::replicasOf).thenComparing(node -> node));
        return best.orElse(null);
    }

    private Integer sizeSplitKey(Range range) {
        TreeMap<Integer, Integer> inside = new TreeMap<>(s.items.subMap(range.start, endOf(range)));
        if (inside.size() < 2) return null;
        int size = sizeOf(range);
        for (int key : inside.keySet()) {
            int lesser = inside.headMap(key).values().stream().mapToInt(Integer::intValue).sum();
            if (key != inside.firstKey() && 2 * lesser >= size) return key;
        }
        return inside.lastKey();
    }

    private Integer loadSplitKey(Range range) {
        List<Integer> inside = loadKeys(range);
        TreeSet<Integer> different = new TreeSet<>(inside);
        if (different.size() < 2) return null;
        for (int key : different) {
            long lesser = inside.stream().filter(other -> other < key).count();
            if (key != different.first() && 2 * lesser >= inside.size()) return key;
        }
        return different.last();
    }

    private void split(Range range, int key) {
        Range upper = range.copy();
        upper.start = key;
        s.ranges.add(s.ranges.indexOf(range) + 1, upper);
    }

    private int runTick() {
        s.time++;
        for (Range range : s.ranges) {
            if (range.learner == null || !up(range.learner) || range.leader == null) continue;
            range.remaining--;
            if (range.remaining == 0) {
                range.voters.add(range.learner);
                Integer replaced = range.replaced;
                dropLearner(range);
                if (replaced != null) {
                    range.voters.remove(replaced);
                    if (replaced.equals(range.leader)) elect(range);
                }
            }
        }
        for (int action = 1; action <= 8; action++) {
            for (int i = 0; i < s.ranges.size(); i++) {
                if (act(action, i)) {
                    s.performed[action]++;
                    return 100 * action + i;
                }
            }
        }
        return 0;
    }

    private boolean act(int action, int i) {
        Range range = s.ranges.get(i);
        switch (action) {
            case 1: return create(range);
            case 2: return repair(range);
            case 3: return spread(range);
            case 4: return sizeOf(range) > s.maxSize && tickSplit(range, sizeSplitKey(range));
            case 5: return loadKeys(range).size() > s.maxLoad && tickSplit(range, loadSplitKey(range));
            case 6: return i + 1 < s.ranges.size() && merge(range, s.ranges.get(i + 1));
            case 7: return shiftLeader(range);
            default: return shiftReplica(range);
        }
    }

    private boolean create(Range range) {
        if (!range.voters.isEmpty()) return false;
        Integer node = choose(range, null);
        if (node == null) return false;
        range.voters.add(node);
        elect(range);
        return true;
    }

    private boolean learn(Range range, Integer node, Integer replaced) {
        if (node == null) return false;
        range.learner = node;
        range.remaining = 1 + sizeOf(range) / s.speed;
        range.replaced = replaced;
        return true;
    }

    private boolean repair(Range range) {
        if (!available(range) || range.learner != null) return false;
        if (range.voters.stream().filter(this::up).count() >= s.r) return false;
        Integer v = range.voters.stream().filter(node -> !up(node)).findFirst().orElse(null);
        return learn(range, choose(range, v), v);
    }

    private boolean spread(Range range) {
        if (!available(range) || !allUp(range) || range.learner != null) return false;
        for (int v : range.voters.descendingSet()) {
            if (fresh(range, v, v)) continue;
            Integer node = choose(range, v);
            return node != null && fresh(range, v, node) && learn(range, node, v);
        }
        return false;
    }

    private boolean tickSplit(Range range, Integer key) {
        if (range.learner != null || key == null || s.ranges.size() >= 16) return false;
        split(range, key);
        return true;
    }

    private boolean merge(Range range, Range next) {
        if (range.learner != null || next.learner != null || !range.voters.equals(next.voters)) return false;
        if (!available(range) || !available(next)) return false;
        if (sizeOf(range) >= s.minSize || sizeOf(next) >= s.minSize) return false;
        if (loadKeys(range).size() >= s.minLoad || loadKeys(next).size() >= s.minLoad) return false;
        if (sizeOf(range) + sizeOf(next) > s.maxSize) return false;
        s.ranges.remove(next);
        return true;
    }

    private boolean shiftLeader(Range range) {
        if (range.leader == null) return false;
        int limit = leadersOf(range.leader, null) - 2;
        Optional<Integer> best = range.voters.stream().filter(node -> up(node) && leadersOf(node, null) <= limit)
                .min(Comparator.comparingInt((Integer node) -> leadersOf(node, null)).thenComparing(node -> node));
        if (best.isEmpty()) return false;
        range.leader = best.get();
        return true;
    }

    private boolean shiftReplica(Range range) {
        if (!available(range) || !allUp(range) || range.learner != null) return false;
        int v = -1;
        for (int node : range.voters) {
            if (v < 0 || replicasOf(node) > replicasOf(v)) v = node;
        }
        Integer node = choose(range, v);
        if (node == null || replicasOf(node) > replicasOf(v) - 2) return false;
        return (fresh(range, v, node) || zone(node) == zone(v)) && learn(range, node, v);
    }
}
