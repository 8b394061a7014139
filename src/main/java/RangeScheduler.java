/**
 * A simulator of the placement driver of a distributed key-value store.
 *
 * Every row is made in the constructor and used again, so that no call makes an object:
 * a saved state of the undo stack is copied into a slot that exists already.
 */
public final class RangeScheduler {
    public static final int NONE = -1;
    public static final int INVALID = -2;
    public static final int REJECTED = -3;
    public static final int FULL = -4;
    public static final int CREATE = 1, REPAIR = 2, SPREAD = 3, SPLIT_SIZE = 4, SPLIT_LOAD = 5, MERGE = 6, SHIFT_LEADER = 7, SHIFT_REPLICA = 8;

    private static final int MAX_NODES = 8;
    private static final int MAX_RANGES = 16;
    private static final int MAX_ITEMS = 64;
    private static final int MAX_SAMPLES = 32;
    private static final int MAX_SAVED = 4;
    private static final int MAX_ZONE = 3;
    private static final int MAX_CAPACITY = 16;
    private static final int MAX_REPLICATION = 5;
    private static final int MAX_RANGE_SIZE = 9999;
    private static final int MAX_SPEED = 99;
    private static final int MAX_ITEM_SIZE = 99;
    private static final int MAX_SETTLE_TICKS = 200;
    private static final int KEY_COUNT = 10000;
    private static final int LAST_ACTION = SHIFT_REPLICA;
    private static final long DIGEST_SEED = 12532L;

    private final Driver driver;
    private final Cluster cluster;
    private final History history;
    private int invalidCalls;
    private int rejectedCalls;
    private int fullCalls;

    public RangeScheduler() {
        driver = new Driver();
        cluster = driver.cluster;
        history = new History();
    }

    // ---- nodes and settings

    public int addNode(int zone, int capacity) {
        if (!isWithin(zone, 0, MAX_ZONE) || !isWithin(capacity, 1, MAX_CAPACITY)) {
            return fail(INVALID);
        }
        if (cluster.nodes.count >= MAX_NODES) {
            return fail(FULL);
        }
        history.save(cluster);
        return cluster.nodes.append(zone, capacity);
    }

    public int setNode(int node, int up) {
        if (!cluster.nodes.exists(node) || !isWithin(up, 0, 1)) {
            return fail(INVALID);
        }
        boolean wanted = up == 1;
        if (cluster.nodes.isUp(node) == wanted) {
            return fail(REJECTED);
        }
        history.save(cluster);
        if (wanted) {
            cluster.bringUp(node);
        } else {
            cluster.takeDown(node);
        }
        return cluster.countAvailable();
    }

    public int setReplication(int replicas) {
        if (!isWithin(replicas, 1, MAX_REPLICATION)) {
            return fail(INVALID);
        }
        history.save(cluster);
        int previous = cluster.settings.replication;
        cluster.settings.replication = replicas;
        return previous;
    }

    public int setSizes(int minimum, int maximum) {
        if (!isWithin(maximum, 1, MAX_RANGE_SIZE) || !isWithin(minimum, 0, maximum)) {
            return fail(INVALID);
        }
        history.save(cluster);
        int previous = cluster.settings.maximumSize;
        cluster.settings.minimumSize = minimum;
        cluster.settings.maximumSize = maximum;
        return previous;
    }

    public int setLoads(int minimum, int maximum) {
        if (!isWithin(maximum, 1, MAX_SAMPLES) || !isWithin(minimum, 0, maximum)) {
            return fail(INVALID);
        }
        history.save(cluster);
        int previous = cluster.settings.maximumLoad;
        cluster.settings.minimumLoad = minimum;
        cluster.settings.maximumLoad = maximum;
        return previous;
    }

    public int setSpeed(int speed) {
        if (!isWithin(speed, 1, MAX_SPEED)) {
            return fail(INVALID);
        }
        history.save(cluster);
        int previous = cluster.settings.speed;
        cluster.settings.speed = speed;
        return previous;
    }

    // ---- data

    public int put(int key, int size) {
        if (!isKey(key) || !isWithin(size, 1, MAX_ITEM_SIZE)) {
            return fail(INVALID);
        }
        int previous = cluster.items.sizeAt(key);
        if (previous == 0 && cluster.items.count >= MAX_ITEMS) {
            return fail(FULL);
        }
        history.save(cluster);
        cluster.items.store(key, size);
        return previous;
    }

    public int remove(int key) {
        if (!isKey(key)) {
            return fail(INVALID);
        }
        int previous = cluster.items.sizeAt(key);
        if (previous == 0) {
            return fail(REJECTED);
        }
        history.save(cluster);
        cluster.items.erase(key);
        return previous;
    }

    public int access(int key) {
        if (!isKey(key)) {
            return fail(INVALID);
        }
        history.save(cluster);
        cluster.samples.append(key);
        return cluster.ranges.leaderNodes[cluster.ranges.holding(key)];
    }

    public int splitAt(int key) {
        if (!isKey(key)) {
            return fail(INVALID);
        }
        int range = cluster.ranges.holding(key);
        if (cluster.ranges.starts[range] == key || cluster.ranges.hasLearner(range)) {
            return fail(REJECTED);
        }
        if (cluster.ranges.isFull()) {
            return fail(FULL);
        }
        history.save(cluster);
        cluster.ranges.divide(range, key);
        return range + 1;
    }

    public int sizeOf(int key) {
        if (!isKey(key)) {
            return fail(INVALID);
        }
        return cluster.items.sizeAt(key);
    }

    // ---- scheduling

    public int tick() {
        history.save(cluster);
        return driver.runTick();
    }

    public int settle(int ticks) {
        if (!isWithin(ticks, 1, MAX_SETTLE_TICKS)) {
            return fail(INVALID);
        }
        history.save(cluster);
        int done = 0;
        boolean settled = false;
        while (done < ticks && !settled) {
            boolean acted = driver.runTick() != 0;
            done++;
            settled = !acted && !cluster.ranges.anyLearner();
        }
        return done;
    }

    public int performed(int action) {
        if (!isWithin(action, CREATE, LAST_ACTION)) {
            return fail(INVALID);
        }
        return cluster.performedCounts[action];
    }

    public int time() {
        return cluster.ticksSoFar;
    }

    // ---- ranges

    public int rangeCount() {
        return cluster.ranges.count;
    }

    public int start(int range) {
        if (!cluster.ranges.exists(range)) {
            return fail(INVALID);
        }
        return cluster.ranges.starts[range];
    }

    public int size(int range) {
        if (!cluster.ranges.exists(range)) {
            return fail(INVALID);
        }
        return cluster.rangeSize(range);
    }

    public int load(int range) {
        if (!cluster.ranges.exists(range)) {
            return fail(INVALID);
        }
        return cluster.rangeLoad(range);
    }

    public int rangeOf(int key) {
        if (!isKey(key)) {
            return fail(INVALID);
        }
        return cluster.ranges.holding(key);
    }

    public int voters(int range) {
        if (!cluster.ranges.exists(range)) {
            return fail(INVALID);
        }
        return cluster.ranges.voterMasks[range];
    }

    public int leader(int range) {
        if (!cluster.ranges.exists(range)) {
            return fail(INVALID);
        }
        return cluster.ranges.leaderNodes[range];
    }

    public int learner(int range) {
        if (!cluster.ranges.exists(range)) {
            return fail(INVALID);
        }
        return cluster.ranges.learnerCode(range);
    }

    public int isAvailable(int range) {
        if (!cluster.ranges.exists(range)) {
            return fail(INVALID);
        }
        return cluster.hasQuorum(range) ? 1 : 0;
    }

    public int splitKey(int range, int kind) {
        if (!cluster.ranges.exists(range) || !isWithin(kind, 0, 1)) {
            return fail(INVALID);
        }
        return kind == 0 ? cluster.sizeSplitKey(range) : cluster.loadSplitKey(range);
    }

    // ---- nodes

    public int replicas(int node) {
        if (!cluster.nodes.exists(node)) {
            return fail(INVALID);
        }
        return cluster.ranges.replicasOn(node);
    }

    public int leaders(int node) {
        if (!cluster.nodes.exists(node)) {
            return fail(INVALID);
        }
        return cluster.ranges.ledBy(node);
    }

    // ---- undo and errors

    public int undo() {
        if (history.count == 0) {
            return fail(REJECTED);
        }
        history.restoreInto(cluster);
        return history.count;
    }

    public int errorCount(int kind) {
        switch (kind) {
            case 0:
                return invalidCalls;
            case 1:
                return rejectedCalls;
            case 2:
                return fullCalls;
            default:
                return fail(INVALID);
        }
    }

    public long digest() {
        long h = DIGEST_SEED;
        h = mix(h, invalidCalls);
        h = mix(h, rejectedCalls);
        h = mix(h, fullCalls);
        h = mix(h, history.count);
        h = mix(h, cluster.ticksSoFar);
        h = mixSettings(h);
        h = mixNodes(h);
        h = mixRanges(h);
        h = mixRow(h, cluster.samples.count, cluster.samples.keys);
        for (int action = CREATE; action <= LAST_ACTION; action++) {
            h = mix(h, cluster.performedCounts[action]);
        }
        return h;
    }

    private long mixSettings(long seed) {
        Settings settings = cluster.settings;
        long h = mix(seed, settings.replication);
        h = mix(h, settings.minimumSize);
        h = mix(h, settings.maximumSize);
        h = mix(h, settings.minimumLoad);
        h = mix(h, settings.maximumLoad);
        return mix(h, settings.speed);
    }

    private long mixNodes(long seed) {
        Nodes nodes = cluster.nodes;
        long h = mix(seed, nodes.count);
        for (int node = 0; node < nodes.count; node++) {
            h = mix(h, nodes.zones[node]);
            h = mix(h, nodes.capacities[node]);
            h = mix(h, nodes.isUp(node) ? 1 : 0);
            h = mix(h, cluster.ranges.replicasOn(node));
            h = mix(h, cluster.ranges.ledBy(node));
        }
        return h;
    }

    private long mixRanges(long seed) {
        Ranges ranges = cluster.ranges;
        long h = mix(seed, ranges.count);
        for (int range = 0; range < ranges.count; range++) {
            h = mix(h, ranges.starts[range]);
            h = mix(h, cluster.rangeSize(range));
            h = mix(h, cluster.rangeLoad(range));
            h = mix(h, ranges.voterMasks[range]);
            h = mix(h, ranges.leaderNodes[range]);
            h = mix(h, ranges.learnerCode(range));
            h = mix(h, ranges.replacedNodes[range]);
            h = mix(h, cluster.sizeSplitKey(range));
            h = mix(h, cluster.loadSplitKey(range));
        }
        return h;
    }

    private static long mixRow(long seed, int count, int[] row) {
        long h = mix(seed, count);
        for (int i = 0; i < count && i < row.length; i++) {
            h = mix(h, row[i]);
        }
        return h;
    }

    private static long mix(long h, int value) {
        return 31L * h + value;
    }

    private int fail(int error) {
        if (error == INVALID) {
            invalidCalls++;
        } else if (error == REJECTED) {
            rejectedCalls++;
        } else {
            fullCalls++;
        }
        return error;
    }

    private static boolean isWithin(int value, int least, int greatest) {
        return value >= least && value <= greatest;
    }

    private static boolean isKey(int key) {
        return isWithin(key, 0, KEY_COUNT - 1);
    }

    /** The mask of one node; no bit for NONE, so that taking it out of a mask changes nothing. */
    private static int bit(int node) {
        return node == NONE ? 0 : 1 << node;
    }

    private static void copyRow(int[] from, int[] to) {
        System.arraycopy(from, 0, to, 0, Math.min(from.length, to.length));
    }

    private static final class Settings {
        int replication = 3;
        int minimumSize = 20;
        int maximumSize = 100;
        int minimumLoad = 2;
        int maximumLoad = 16;
        int speed = 10;

        int learnerTicks(int size) {
            return speed < 1 ? 1 : 1 + size / speed;
        }

        void copyFrom(Settings other) {
            replication = other.replication;
            minimumSize = other.minimumSize;
            maximumSize = other.maximumSize;
            minimumLoad = other.minimumLoad;
            maximumLoad = other.maximumLoad;
            speed = other.speed;
        }
    }

    private static final class Nodes {
        int count;
        int upMask;
        final int[] zones = new int[MAX_NODES];
        final int[] capacities = new int[MAX_NODES];

        boolean exists(int node) {
            return node >= 0 && node < count;
        }

        boolean isUp(int node) {
            return (upMask & bit(node)) != 0;
        }

        int append(int zone, int capacity) {
            int node = count;
            if (node >= MAX_NODES) {
                return NONE;
            }
            zones[node] = zone;
            capacities[node] = capacity;
            upMask |= bit(node);
            count++;
            return node;
        }

        /** The zones of the nodes of a mask, as a mask of zones. */
        int zonesOf(int mask) {
            int zoneMask = 0;
            for (int node = 0; node < count; node++) {
                if ((mask >> node & 1) != 0) {
                    zoneMask |= 1 << zones[node];
                }
            }
            return zoneMask;
        }

        void copyFrom(Nodes other) {
            count = other.count;
            upMask = other.upMask;
            copyRow(other.zones, zones);
            copyRow(other.capacities, capacities);
        }
    }

    /** The ranges in the order of their keys, a row for each thing that a range has. */
    private static final class Ranges {
        int count;
        final int[] starts = new int[MAX_RANGES];
        final int[] voterMasks = new int[MAX_RANGES];
        final int[] leaderNodes = new int[MAX_RANGES];
        final int[] learnerNodes = new int[MAX_RANGES];
        final int[] remainingTicks = new int[MAX_RANGES];
        final int[] replacedNodes = new int[MAX_RANGES];

        Ranges() {
            count = 1;
            leaderNodes[0] = NONE;
            learnerNodes[0] = NONE;
            replacedNodes[0] = NONE;
        }

        boolean exists(int range) {
            return range >= 0 && range < count;
        }

        boolean isFull() {
            return count >= MAX_RANGES;
        }

        int holding(int key) {
            int range = 0;
            while (range + 1 < count && starts[range + 1] <= key) {
                range++;
            }
            return range;
        }

        /** The first key behind a range. */
        int endOf(int range) {
            return range + 1 < count ? starts[range + 1] : KEY_COUNT;
        }

        boolean hasLearner(int range) {
            return learnerNodes[range] != NONE;
        }

        boolean anyLearner() {
            for (int range = 0; range < count; range++) {
                if (hasLearner(range)) {
                    return true;
                }
            }
            return false;
        }

        int learnerCode(int range) {
            return hasLearner(range) ? 100 * remainingTicks[range] + learnerNodes[range] : NONE;
        }

        void setLearner(int range, int node, int ticks, int replaced) {
            learnerNodes[range] = node;
            remainingTicks[range] = ticks;
            replacedNodes[range] = replaced;
        }

        void clearLearner(int range) {
            setLearner(range, NONE, 0, NONE);
        }

        int replicasOn(int node) {
            int mask = bit(node);
            int found = 0;
            for (int range = 0; range < count; range++) {
                if ((voterMasks[range] & mask) != 0 || learnerNodes[range] == node) {
                    found++;
                }
            }
            return found;
        }

        int ledBy(int node) {
            int found = 0;
            for (int range = 0; range < count; range++) {
                if (leaderNodes[range] == node) {
                    found++;
                }
            }
            return found;
        }

        /** Makes the keys from this one on a range of its own; the range must have no learner. */
        void divide(int range, int key) {
            if (isFull()) {
                return;
            }
            for (int i = count; i > range + 1; i--) {
                copyWithin(i - 1, i);
            }
            copyWithin(range, range + 1);
            starts[range + 1] = key;
            count++;
        }

        /** Lets a range take over the keys of the next one. */
        void absorbNext(int range) {
            for (int i = range + 1; i + 1 < count; i++) {
                copyWithin(i + 1, i);
            }
            count--;
        }

        private void copyWithin(int from, int to) {
            starts[to] = starts[from];
            voterMasks[to] = voterMasks[from];
            leaderNodes[to] = leaderNodes[from];
            learnerNodes[to] = learnerNodes[from];
            remainingTicks[to] = remainingTicks[from];
            replacedNodes[to] = replacedNodes[from];
        }

        void copyFrom(Ranges other) {
            count = other.count;
            copyRow(other.starts, starts);
            copyRow(other.voterMasks, voterMasks);
            copyRow(other.leaderNodes, leaderNodes);
            copyRow(other.learnerNodes, learnerNodes);
            copyRow(other.remainingTicks, remainingTicks);
            copyRow(other.replacedNodes, replacedNodes);
        }
    }

    /** The items in the order of their keys. */
    private static final class Items {
        int count;
        final int[] keys = new int[MAX_ITEMS];
        final int[] sizes = new int[MAX_ITEMS];

        /** The place of the first item whose key is not less than this one. */
        private int placeOf(int key) {
            int place = 0;
            while (place < count && keys[place] < key) {
                place++;
            }
            return place;
        }

        private boolean isAt(int place, int key) {
            return place < count && keys[place] == key;
        }

        int sizeAt(int key) {
            int place = placeOf(key);
            return isAt(place, key) ? sizes[place] : 0;
        }

        void store(int key, int size) {
            int place = placeOf(key);
            if (!isAt(place, key)) {
                if (count >= MAX_ITEMS) {
                    return;
                }
                System.arraycopy(keys, place, keys, place + 1, count - place);
                System.arraycopy(sizes, place, sizes, place + 1, count - place);
                keys[place] = key;
                count++;
            }
            sizes[place] = size;
        }

        void erase(int key) {
            int place = placeOf(key);
            if (!isAt(place, key)) {
                return;
            }
            count--;
            System.arraycopy(keys, place + 1, keys, place, count - place);
            System.arraycopy(sizes, place + 1, sizes, place, count - place);
        }

        int sumBetween(int from, int end) {
            int sum = 0;
            for (int i = 0; i < count; i++) {
                if (keys[i] >= from && keys[i] < end) {
                    sum += sizes[i];
                }
            }
            return sum;
        }

        int splitKeyBetween(int from, int end) {
            int total = sumBetween(from, end);
            int first = placeOf(from);
            int lesser = 0;
            int greatest = NONE;
            for (int i = first; i < count && keys[i] < end; i++) {
                if (i > first) {
                    greatest = keys[i];
                    if (2 * lesser >= total) {
                        return greatest;
                    }
                }
                lesser += sizes[i];
            }
            return greatest;
        }

        void copyFrom(Items other) {
            count = other.count;
            copyRow(other.keys, keys);
            copyRow(other.sizes, sizes);
        }
    }

    /** The keys of the latest accesses, from the oldest to the latest. */
    private static final class Samples {
        int count;
        final int[] keys = new int[MAX_SAMPLES];

        void append(int key) {
            if (count >= MAX_SAMPLES) {
                System.arraycopy(keys, 1, keys, 0, MAX_SAMPLES - 1);
                count = MAX_SAMPLES - 1;
            }
            keys[count] = key;
            count++;
        }

        int countBetween(int from, int end) {
            int found = 0;
            for (int i = 0; i < count; i++) {
                if (keys[i] >= from && keys[i] < end) {
                    found++;
                }
            }
            return found;
        }

        /** The least key of a sample from one key on and before another, or that other key. */
        private int leastBetween(int from, int end) {
            int least = end;
            for (int i = 0; i < count; i++) {
                if (keys[i] >= from && keys[i] < least) {
                    least = keys[i];
                }
            }
            return least;
        }

        int splitKeyBetween(int from, int end) {
            int total = countBetween(from, end);
            int greatest = NONE;
            int key = leastBetween(leastBetween(from, end) + 1, end);
            for (int i = 0; i < MAX_SAMPLES && key < end; i++) {
                greatest = key;
                if (2 * countBetween(from, key) >= total) {
                    return greatest;
                }
                key = leastBetween(key + 1, end);
            }
            return greatest;
        }

        void copyFrom(Samples other) {
            count = other.count;
            copyRow(other.keys, keys);
        }
    }

    /** Everything that undo brings back. */
    private static final class Cluster {
        final Settings settings = new Settings();
        final Nodes nodes = new Nodes();
        final Ranges ranges = new Ranges();
        final Items items = new Items();
        final Samples samples = new Samples();
        final int[] performedCounts = new int[LAST_ACTION + 1];
        int ticksSoFar;

        int rangeSize(int range) {
            return items.sumBetween(ranges.starts[range], ranges.endOf(range));
        }

        int rangeLoad(int range) {
            return samples.countBetween(ranges.starts[range], ranges.endOf(range));
        }

        int sizeSplitKey(int range) {
            return items.splitKeyBetween(ranges.starts[range], ranges.endOf(range));
        }

        int loadSplitKey(int range) {
            return samples.splitKeyBetween(ranges.starts[range], ranges.endOf(range));
        }

        int votersUp(int range) {
            return ranges.voterMasks[range] & nodes.upMask;
        }

        int votersDown(int range) {
            return ranges.voterMasks[range] & ~nodes.upMask;
        }

        boolean hasQuorum(int range) {
            return 2 * Integer.bitCount(votersUp(range)) > Integer.bitCount(ranges.voterMasks[range]);
        }

        int countAvailable() {
            int found = 0;
            for (int range = 0; range < ranges.count; range++) {
                if (hasQuorum(range)) {
                    found++;
                }
            }
            return found;
        }

        /** Of the nodes of a mask the one that leads the fewest ranges, the lowest of several. */
        int leastLeading(int mask) {
            int best = NONE;
            int fewest = MAX_RANGES + 1;
            for (int node = 0; node < nodes.count; node++) {
                if ((mask & bit(node)) != 0) {
                    int led = ranges.ledBy(node);
                    if (led < fewest) {
                        best = node;
                        fewest = led;
                    }
                }
            }
            return best;
        }

        void elect(int range) {
            // Without a leader the range is not counted for any of its voters.
            ranges.leaderNodes[range] = NONE;
            if (hasQuorum(range)) {
                ranges.leaderNodes[range] = leastLeading(votersUp(range));
            }
        }

        void bringUp(int node) {
            nodes.upMask |= bit(node);
            for (int range = 0; range < ranges.count; range++) {
                if (ranges.leaderNodes[range] == NONE) {
                    elect(range);
                }
            }
        }

        void takeDown(int node) {
            nodes.upMask &= ~bit(node);
            for (int range = 0; range < ranges.count; range++) {
                if (ranges.learnerNodes[range] == node) {
                    ranges.clearLearner(range);
                }
            }
            for (int range = 0; range < ranges.count; range++) {
                if (!hasQuorum(range)) {
                    ranges.leaderNodes[range] = NONE;
                } else if (ranges.leaderNodes[range] == node) {
                    elect(range);
                }
            }
        }

        void copyFrom(Cluster other) {
            settings.copyFrom(other.settings);
            nodes.copyFrom(other.nodes);
            ranges.copyFrom(other.ranges);
            items.copyFrom(other.items);
            samples.copyFrom(other.samples);
            copyRow(other.performedCounts, performedCounts);
            ticksSoFar = other.ticksSoFar;
        }
    }

    /** Performs the ticks of a cluster. */
    private static final class Driver {
        final Cluster cluster;
        private final Settings settings;
        private final Nodes nodes;
        private final Ranges ranges;

        Driver() {
            cluster = new Cluster();
            settings = cluster.settings;
            nodes = cluster.nodes;
            ranges = cluster.ranges;
        }

        /** Returns 100 * action + range, or 0 if no action was possible. */
        int runTick() {
            cluster.ticksSoFar++;
            for (int range = 0; range < ranges.count; range++) {
                advanceLearner(range);
            }
            for (int action = CREATE; action <= LAST_ACTION; action++) {
                for (int range = 0; range < ranges.count; range++) {
                    if (perform(action, range)) {
                        cluster.performedCounts[action]++;
                        return 100 * action + range;
                    }
                }
            }
            return 0;
        }

        private void advanceLearner(int range) {
            int node = ranges.learnerNodes[range];
            if (!nodes.isUp(node) || ranges.leaderNodes[range] == NONE) {
                return;
            }
            ranges.remainingTicks[range]--;
            if (ranges.remainingTicks[range] > 0) {
                return;
            }
            int replaced = ranges.replacedNodes[range];
            ranges.clearLearner(range);
            ranges.voterMasks[range] = (ranges.voterMasks[range] | bit(node)) & ~bit(replaced);
            if (ranges.leaderNodes[range] == replaced) {
                cluster.elect(range);
            }
        }

        /** Performs an action on a range if it is possible there, and tells whether it was. */
        private boolean perform(int action, int range) {
            switch (action) {
                case CREATE:
                    return create(range);
                case REPAIR:
                    return repair(range);
                case SPREAD:
                    return spread(range);
                case SPLIT_SIZE:
                    return splitBySize(range);
                case SPLIT_LOAD:
                    return splitByLoad(range);
                case MERGE:
                    return merge(range);
                case SHIFT_LEADER:
                    return shiftLeader(range);
                case SHIFT_REPLICA:
                    return shiftReplica(range);
                default:
                    return false;
            }
        }

        private boolean create(int range) {
            if (ranges.voterMasks[range] != 0) {
                return false;
            }
            int node = choose(range, NONE);
            if (node == NONE) {
                return false;
            }
            ranges.voterMasks[range] = bit(node);
            cluster.elect(range);
            return true;
        }

        private boolean repair(int range) {
            if (ranges.hasLearner(range) || !cluster.hasQuorum(range)
                    || Integer.bitCount(cluster.votersUp(range)) >= settings.replication) {
                return false;
            }
            int replaced = lowestOf(cluster.votersDown(range));
            int node = choose(range, replaced);
            if (node == NONE) {
                return false;
            }
            teach(range, node, replaced);
            return true;
        }

        private boolean spread(int range) {
            if (!isWhole(range)) {
                return false;
            }
            int replaced = highestSharingZone(ranges.voterMasks[range]);
            if (replaced == NONE) {
                return false;
            }
            int node = choose(range, replaced);
            if (node == NONE || !isFresh(range, replaced, node)) {
                return false;
            }
            teach(range, node, replaced);
            return true;
        }

        private boolean splitBySize(int range) {
            if (ranges.hasLearner(range) || ranges.isFull()
                    || cluster.rangeSize(range) <= settings.maximumSize) {
                return false;
            }
            return divideAt(range, cluster.sizeSplitKey(range));
        }

        private boolean splitByLoad(int range) {
            if (ranges.hasLearner(range) || ranges.isFull()
                    || cluster.rangeLoad(range) <= settings.maximumLoad) {
                return false;
            }
            return divideAt(range, cluster.loadSplitKey(range));
        }

        private boolean divideAt(int range, int key) {
            if (key == NONE) {
                return false;
            }
            ranges.divide(range, key);
            return true;
        }

        private boolean merge(int range) {
            int next = range + 1;
            if (next >= ranges.count || ranges.voterMasks[range] != ranges.voterMasks[next]
                    || !isCold(range) || !isCold(next)
                    || cluster.rangeSize(range) + cluster.rangeSize(next) > settings.maximumSize) {
                return false;
            }
            ranges.absorbNext(range);
            return true;
        }

        /** What a merge asks of each of the two ranges by itself. */
        private boolean isCold(int range) {
            return !ranges.hasLearner(range) && cluster.hasQuorum(range)
                    && cluster.rangeSize(range) < settings.minimumSize
                    && cluster.rangeLoad(range) < settings.minimumLoad;
        }

        private boolean shiftLeader(int range) {
            int leading = ranges.leaderNodes[range];
            if (leading == NONE) {
                return false;
            }
            // If any voter leads few enough ranges, the one that leads the fewest does.
            int node = cluster.leastLeading(cluster.votersUp(range));
            if (node == NONE || ranges.ledBy(node) + 2 > ranges.ledBy(leading)) {
                return false;
            }
            ranges.leaderNodes[range] = node;
            return true;
        }

        private boolean shiftReplica(int range) {
            if (!isWhole(range)) {
                return false;
            }
            int replaced = mostLoaded(ranges.voterMasks[range]);
            int node = choose(range, replaced);
            if (!nodes.exists(replaced) || !nodes.exists(node)
                    || ranges.replicasOn(node) + 2 > ranges.replicasOn(replaced)) {
                return false;
            }
            if (!isFresh(range, replaced, node) && nodes.zones[node] != nodes.zones[replaced]) {
                return false;
            }
            teach(range, node, replaced);
            return true;
        }

        /** Available, with all voters up and without a learner. */
        private boolean isWhole(int range) {
            return !ranges.hasLearner(range) && cluster.votersDown(range) == 0 && cluster.hasQuorum(range);
        }

        private void teach(int range, int node, int replaced) {
            ranges.setLearner(range, node, settings.learnerTicks(cluster.rangeSize(range)), replaced);
        }

        /** Chooses a node for a range, with a voter that is to be replaced or with NONE. */
        private int choose(int range, int replaced) {
            int taken = ranges.voterMasks[range] | bit(ranges.learnerNodes[range]);
            int free = nodes.upMask & ~taken;
            int best = NONE;
            int bestRank = 0;
            for (int node = 0; node < nodes.count; node++) {
                int held = ranges.replicasOn(node);
                if ((free & bit(node)) != 0 && held < nodes.capacities[node]) {
                    // No node has more replicas than there are ranges: freshness outweighs them.
                    int rank = isFresh(range, replaced, node) ? held : held + MAX_RANGES + 1;
                    if (best == NONE || rank < bestRank) {
                        best = node;
                        bestRank = rank;
                    }
                }
            }
            return best;
        }

        private boolean isFresh(int range, int replaced, int node) {
            int others = ranges.voterMasks[range] & ~bit(replaced);
            return (nodes.zonesOf(others) & nodes.zonesOf(bit(node))) == 0;
        }

        private int lowestOf(int mask) {
            for (int node = 0; node < nodes.count; node++) {
                if ((mask & bit(node)) != 0) {
                    return node;
                }
            }
            return NONE;
        }

        private int highestSharingZone(int mask) {
            for (int node = nodes.count - 1; node >= 0; node--) {
                int self = bit(node);
                if ((mask & self) != 0 && (nodes.zonesOf(mask & ~self) & nodes.zonesOf(self)) != 0) {
                    return node;
                }
            }
            return NONE;
        }

        private int mostLoaded(int mask) {
            int best = NONE;
            int most = -1;
            for (int node = 0; node < nodes.count; node++) {
                if ((mask & bit(node)) != 0 && ranges.replicasOn(node) > most) {
                    best = node;
                    most = ranges.replicasOn(node);
                }
            }
            return best;
        }
    }

    /** The undo stack: a ring of slots, of which the oldest is written over. */
    private static final class History {
        int count;
        private int next;
        private final Cluster[] slots = new Cluster[MAX_SAVED];

        History() {
            for (int i = 0; i < MAX_SAVED; i++) {
                slots[i] = new Cluster();
            }
        }

        void save(Cluster cluster) {
            Cluster slot = slots[next];
            if (slot == null) {
                return;
            }
            slot.copyFrom(cluster);
            next = (next + 1) % MAX_SAVED;
            count = Math.min(count + 1, MAX_SAVED);
        }

        void restoreInto(Cluster cluster) {
            int latest = (next + MAX_SAVED - 1) % MAX_SAVED;
            Cluster slot = slots[latest];
            if (slot == null || count == 0) {
                return;
            }
            cluster.copyFrom(slot);
            next = latest;
            count--;
        }
    }
}
