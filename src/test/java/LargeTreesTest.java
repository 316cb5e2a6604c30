/**
 * The largest and the deepest trees that a store has room for, seen by every call. A new key copies at
 * least one node while the version before it lives, so a tree has at most C - 1 nodes (or 1, when C is 1).
 */
public final class LargeTreesTest {
    private static final int MIN = Trees.MIN;
    private static final int MAX = Trees.MAX;
    private static final int NOROOM = -3;
    private static final int MIXED = -4;
    private static final int ROOM = 40;

    private LargeTreesTest() {
    }

    public static void main(String[] args) {
        for (int room : Trees.row(1, 2, 3, 4, 20, 21, 39, 40)) {
            largestTree(room, room);
        }
        largestTree(0, 20);
        largestTree(41, 20);
        floorInTheDeepestTree();
        valuesInTheDeepestTree();
        updatesOfTheLargestTree();
        noRoomBesideTheLargestTree();
        putOverTheLongestWay();
        putUnderTheLongestWay();
        removeUnderTheLongestWay();
        belowAllOfTheLongestWay();
        longestJoint();
        belowBehindGreaterOnes();
        deepestToTheLeft();
        Check.end();
    }

    /**
     * A version that is a chain to the right: the key at i has i nodes above it. What a weight does not
     * fit for is put into none and dropped again.
     */
    private static final class Chain {
        final TreapVersions x;
        final int room;
        int version;
        int size;
        private final int[] keys = new int[ROOM];
        private final int[] weights = new int[ROOM];
        private int state = 1;
        private int draws;

        Chain(int asked, int room, int length) {
            x = new TreapVersions(asked, 8, state);
            this.room = room;
            while (size < length && draws < 150) {
                grow();
            }
            Check.same("room " + room + ": a chain of " + length, length, size);
        }

        int key(int i) {
            return keys[i];
        }

        int last() {
            return keys[size - 1];
        }

        /** The next weight that a put draws. */
        int drawn() {
            draws++;
            state = state * 1103515245 + 12345;
            return (state >>> 16) & 15;
        }

        /** How many go above a node whose key is greater than all of those with its weight or more. */
        int above(int weight) {
            int count = 0;
            while (count < size && weights[count] >= weight) {
                count++;
            }
            return count;
        }

        /** The later of two with one weight has the lesser key, so it goes above the other. */
        private void grow() {
            int weight = drawn();
            int at = above(weight + 1);
            int fresh = at + (at < size ? 1 : 0) + 1;
            if (size + fresh > room) {
                x.drop(x.put(0, 7, 7));
                return;
            }
            int k = (15 - weight) * 1000 - draws;
            int next = x.put(version, k, -k);
            if (version != 0) {
                x.drop(version);
            }
            version = next;
            insert(at, k, weight);
        }

        private void insert(int at, int k, int weight) {
            for (int i = size; i > at; i--) {
                keys[i] = keys[i - 1];
                weights[i] = weights[i - 1];
            }
            keys[at] = k;
            weights[at] = weight;
            size++;
        }
    }

    /** Promise 1: "C is room, 20 when it is not 1 .. 40"; promises 10, 12, 14, 15 and 16 of the largest tree. */
    private static void largestTree(int asked, int room) {
        String what = "room " + asked + ": ";
        Chain c = new Chain(asked, room, Math.max(1, room - 1));
        Check.same(what + "size", c.size, c.x.size(c.version));
        Check.same(what + "nodes", c.size, c.x.nodes());
        Check.same(what + "shared with itself", c.size, c.x.shared(c.version, c.version));
        Check.same(what + "shared with its twin", c.size, c.x.shared(c.version, c.x.remove(c.version, MAX)));
        Check.same(what + "nodes of both", c.size, c.x.nodes());
        for (int i = 0; i < c.size; i++) {
            int at = i;
            Check.same(what + "keyAt " + i, c.key(i), () -> c.x.keyAt(c.version, at));
            Check.same(what + "depth at " + i, i, () -> c.x.depth(c.version, c.key(at)));
        }
        Check.same(what + "keyAt behind the last", Check.OUT_OF_BOUNDS, () -> c.x.keyAt(c.version, c.size));
        Check.same(what + "depth of no key", Check.NO_SUCH_ELEMENT, () -> c.x.depth(c.version, c.last() + 1));
    }

    /** Promise 11: "The greatest key that is not greater than k.", 38 nodes deep. */
    private static void floorInTheDeepestTree() {
        Chain c = new Chain(ROOM, ROOM, ROOM - 1);
        for (int i = 0; i < c.size; i++) {
            int at = i;
            Check.same("floor of the key at " + i, c.key(i), () -> c.x.floor(c.version, c.key(at)));
            int next = i + 1 < c.size ? c.key(i + 1) - 1 : MAX;
            Check.same("floor behind the key at " + i, c.key(i), () -> c.x.floor(c.version, next));
        }
        Check.same("floor before all", Check.NO_SUCH_ELEMENT, () -> c.x.floor(c.version, c.key(0) - 1));
    }

    /** Promises 8, 9 and 13: "The value of k.", "Whether a version has k", "The sum of the values", 38 nodes deep. */
    private static void valuesInTheDeepestTree() {
        Chain c = new Chain(ROOM, ROOM, ROOM - 1);
        long total = 0;
        for (int i = 0; i < c.size; i++) {
            int k = c.key(i);
            total -= k;
            Check.same("get of " + k, -k, () -> c.x.get(c.version, k));
            Check.holds("it has " + k, c.x.contains(c.version, k));
            Check.same("sum up to " + k, total, c.x.sum(c.version, MIN, k));
        }
        Check.same("get of no key", Check.NO_SUCH_ELEMENT, () -> c.x.get(c.version, c.last() + 1));
        Check.holds("no key behind the last", !c.x.contains(c.version, c.last() + 1));
    }

    /** Terms, the updates: in 40 places one node can be fresh beside a tree of 39, and no more. */
    private static void updatesOfTheLargestTree() {
        Chain c = new Chain(ROOM, ROOM, ROOM - 1);
        int second = c.key(1);
        makes("put of the root's key", c, () -> c.x.put(c.version, c.key(0), 5), 39, 38);
        makes("remove of the second", c, () -> c.x.remove(c.version, second), 38, 37);
        makes("remove of the root", c, () -> c.x.remove(c.version, c.key(0)), 38, 38);
        makes("remove of no key", c, () -> c.x.remove(c.version, c.last() + 1), 39, 39);
        makes("below the second", c, () -> c.x.below(c.version, second), 1, 0);
        makes("below the root", c, () -> c.x.below(c.version, c.key(0)), 0, 0);
        makes("join with none", c, () -> c.x.join(c.version, 0), 39, 39);
        makes("join of none", c, () -> c.x.join(0, c.version), 39, 39);
        Check.same("join with itself", MIXED, c.x.join(c.version, c.version));
    }

    private static void makes(String what, Chain c, Check.Call update, int size, int common) {
        int made = (int) Check.answerOf(update);
        Check.same(what + ": size", size, c.x.size(made));
        Check.same(what + ": nodes in common", common, c.x.shared(c.version, made));
        Check.same(what + ": nodes", 39 + size - common, c.x.nodes());
        Check.holds(what + ": drop", c.x.drop(made));
    }

    /** Terms: "NOROOM when the nodes that are in trees of live versions and the fresh ones are more than C together". */
    private static void noRoomBesideTheLargestTree() {
        Chain c = new Chain(ROOM, ROOM, ROOM - 1);
        int sweeps = c.x.sweeps();
        Check.same("put of the least key, 39 + 2", NOROOM, c.x.put(c.version, c.key(0) - 1, 1));
        Check.same("put of the greatest key, 39 + 40", NOROOM, c.x.put(c.version, c.last() + 1, 1));
        Check.same("put of the second, 39 + 2", NOROOM, c.x.put(c.version, c.key(1), 1));
        Check.same("put of the last, 39 + 39", NOROOM, c.x.put(c.version, c.last(), 1));
        Check.same("remove of the third, 39 + 2", NOROOM, c.x.remove(c.version, c.key(2)));
        Check.same("remove of the last, 39 + 38", NOROOM, c.x.remove(c.version, c.last()));
        Check.same("below the third, 39 + 2", NOROOM, c.x.below(c.version, c.key(2)));
        Check.same("below all, 39 + 39", NOROOM, c.x.below(c.version, MAX));
        Check.same("each swept", sweeps + 8, c.x.sweeps());
        Check.same("used", 39, c.x.used());
        Check.same("nodes", 39, c.x.nodes());
        Check.same("depth of the last", 38, () -> c.x.depth(c.version, c.last()));
    }

    /** Terms, PUT: "all nodes of the way are copied", and the last with its new value, 20 of them. */
    private static void putOverTheLongestWay() {
        Chain c = new Chain(ROOM, ROOM, 20);
        int made = c.x.put(c.version, c.last(), 5);
        Check.same("put of the last of 20: in common", 0, c.x.shared(c.version, made));
        Check.same("put of the last of 20: nodes", 40, c.x.nodes());
        Check.same("put of the last of 20: value", 5, () -> c.x.get(made, c.last()));
        Check.same("put of the last of 20: value before", -c.last(), () -> c.x.get(c.version, c.last()));
        isChain("put of the last of 20", c, made, c.size);
        Chain longer = new Chain(ROOM, ROOM, 21);
        Check.same("put of the last of 21", NOROOM, longer.x.put(longer.version, longer.last(), 5));
    }

    /**
     * Terms, PUT: "those that go above the new one, which come first, each with the copy of the next, the
     * last of them with the new one": of 19, as many as the weights say; the others are under it.
     */
    private static void putUnderTheLongestWay() {
        Chain c = new Chain(ROOM, ROOM, 19);
        int k = c.last() + 1;
        int above = c.above(c.drawn());
        int made = c.x.put(c.version, k, 5);
        Check.same("put under 19: in common", 0, c.x.shared(c.version, made));
        Check.same("put under 19: nodes", 39, c.x.nodes());
        Check.same("put under 19: depth of the new one", above, () -> c.x.depth(made, k));
        for (int i = 0; i < c.size; i++) {
            int at = i;
            Check.same("put under 19: depth at " + i, i < above ? i : i + 1, () -> c.x.depth(made, c.key(at)));
        }
        Chain longer = new Chain(ROOM, ROOM, 20);
        Check.same("put under 20", NOROOM, longer.x.put(longer.version, longer.last() + 1, 5));
    }

    /** Terms, REMOVE: "the nodes above that with k on the way to it are copied", 19 of them. */
    private static void removeUnderTheLongestWay() {
        for (int beside = 1; beside <= 2; beside++) {
            Chain c = new Chain(ROOM, ROOM, 20);
            for (int i = 0; i < beside; i++) {
                c.x.put(0, i, i);
            }
            int made = c.x.remove(c.version, c.last());
            if (beside == 1) {
                Check.same("remove of the last of 20: in common", 0, c.x.shared(c.version, made));
                Check.same("remove of the last of 20: nodes", 40, c.x.nodes());
                isChain("remove of the last of 20", c, made, 19);
            } else {
                Check.same("remove of the last of 20 with two beside it", NOROOM, made);
            }
        }
    }

    /** Terms, BELOW: "its nodes with keys less than k are copied", 20 of them. */
    private static void belowAllOfTheLongestWay() {
        Chain c = new Chain(ROOM, ROOM, 20);
        int made = c.x.below(c.version, MAX);
        Check.same("below all of 20: in common", 0, c.x.shared(c.version, made));
        Check.same("below all of 20: nodes", 40, c.x.nodes());
        isChain("below all of 20", c, made, 20);
        c.x.drop(made);
        int fewer = c.x.below(c.version, c.last());
        isChain("below the last of 20", c, fewer, 19);
        Check.same("below the last of 20: nodes", 39, c.x.nodes());
        Chain longer = new Chain(ROOM, ROOM, 21);
        Check.same("below all of 21", NOROOM, longer.x.below(longer.version, MAX));
        isChain("below the last but one of 21", longer, longer.x.below(longer.version, longer.key(19)), 19);
    }

    /** Terms, the joint: "a copy of l's root with the joint of its right tree and r as its right tree", 19 times. */
    private static void longestJoint() {
        Chain c = new Chain(ROOM, ROOM, 19);
        int k = c.last() + 1;
        int upper = putUnderAllWeights(c, k);
        int made = c.x.join(c.version, upper);
        Check.same("join under 19: nodes", 19 + 1 + 19, c.x.nodes());
        Check.same("join under 19: in common with the lower", 0, c.x.shared(c.version, made));
        Check.same("join under 19: in common with the upper", 1, c.x.shared(upper, made));
        Check.same("join under 19: depth of the upper's", 19, () -> c.x.depth(made, k));
        Check.same("join under 19: size", 20, c.x.size(made));
        for (int i = 0; i < c.size; i++) {
            int at = i;
            Check.same("join under 19: depth at " + i, i, () -> c.x.depth(made, c.key(at)));
        }
        Chain longer = new Chain(ROOM, ROOM, 20);
        int under = putUnderAllWeights(longer, longer.last() + 1);
        Check.same("join under 20, 21 + 20", NOROOM, longer.x.join(longer.version, under));
    }

    /** A version with k alone, whose weight lets all of the chain go above it. */
    private static int putUnderAllWeights(Chain c, int k) {
        for (int i = 0; i < 150 && c.above(c.drawn()) < c.size; i++) {
            c.x.drop(c.x.put(0, 7, 7));
        }
        return c.x.put(0, k, 5);
    }

    /**
     * Terms, BELOW: "its nodes with keys less than k are copied": 14 of them, behind 12 on the way whose
     * keys are greater, which are not.
     */
    private static void belowBehindGreaterOnes() {
        TreapVersions x = new TreapVersions(ROOM, 8, 1);
        int version = lesserUnderGreaterOnes(x);
        Check.same("14 under 12: size", 26, x.size(version));
        Check.same("14 under 12: depth of the last", 25, () -> x.depth(version, x.keyAt(version, 13)));
        Check.same("14 under 12: floor", x.keyAt(version, 13), () -> x.floor(version, 999));
        int below = x.below(version, 1000);
        Check.same("below 1000: size", 14, x.size(below));
        Check.same("below 1000: nodes", 26 + 14, x.nodes());
        for (int i = 0; i < 14; i++) {
            int at = i;
            Check.same("below 1000: depth at " + i, i, () -> x.depth(below, x.keyAt(version, at)));
        }
        x.drop(below);
        Check.same("put 1000, 26 + 27", NOROOM, x.put(version, 1000, 1));
    }

    /**
     * The weights 15 .. 4, each once, go to a chain to the left with keys over 1000, and 14 lesser ones to a
     * chain to the right with keys under 1000; the first stands over the second when they are joined.
     */
    private static int lesserUnderGreaterOnes(TreapVersions x) {
        boolean[] seen = new boolean[16];
        int state = 1;
        int lower = 0;
        int upper = 0;
        for (int i = 0; i < 150; i++) {
            state = state * 1103515245 + 12345;
            int weight = (state >>> 16) & 15;
            if (weight >= 4 && !seen[weight]) {
                seen[weight] = true;
                upper = replace(x, upper, 1000 + weight);
            } else if (weight < 4 && x.size(lower) < 14) {
                lower = replace(x, lower, (3 - weight) * 200 + 150 - i);
            } else {
                x.drop(x.put(0, 7, 7));
            }
        }
        int made = x.join(lower, upper);
        Check.same("12 over 14: nodes", 12 + 14 + 12, x.nodes());
        x.drop(lower);
        x.drop(upper);
        return made;
    }

    /** Puts a key and drops the version before, unless it is handle 0, which stays none. */
    private static int replace(TreapVersions x, int version, int k) {
        int next = x.put(version, k, k);
        if (version != 0) {
            x.drop(version);
        }
        return next;
    }

    /** The first keys of a chain, each under the one before. */
    private static void isChain(String what, Chain c, int version, int size) {
        Check.same(what + ": size", size, c.x.size(version));
        for (int i = 0; i < size; i++) {
            int at = i;
            Check.same(what + ": depth at " + i, i, () -> c.x.depth(version, c.key(at)));
        }
    }

    /**
     * Terms: "x GOES ABOVE y when its weight is greater": to the left the weights must be less and less,
     * so 16 keys are the deepest. Each key is its weight.
     */
    private static void deepestToTheLeft() {
        TreapVersions x = new TreapVersions(ROOM, 8, 1);
        int version = leftChain(x);
        Check.same("to the left: size", 16, x.size(version));
        for (int k = 0; k < 16; k++) {
            int key = k;
            Check.same("to the left: depth of " + k, 15 - k, () -> x.depth(version, key));
            Check.same("to the left: keyAt " + k, k, () -> x.keyAt(version, key));
            Check.same("to the left: floor of " + k, k, () -> x.floor(version, key));
        }
        int removed = x.remove(version, 0);
        Check.same("to the left: remove of the last copies 15", 31, x.nodes());
        Check.same("to the left: remove of the last shares none", 0, x.shared(version, removed));
        int below = x.below(version, 1);
        Check.same("to the left: below 1 copies 0", 32, x.nodes());
        Check.same("to the left: below 1 has 0 alone", 1, x.size(below));
    }

    /** A weight that came before is put into none and dropped again. */
    private static int leftChain(TreapVersions x) {
        boolean[] seen = new boolean[16];
        int state = 1;
        int version = 0;
        for (int i = 0; i < 150; i++) {
            state = state * 1103515245 + 12345;
            int weight = (state >>> 16) & 15;
            if (seen[weight]) {
                x.drop(x.put(0, 7, 7));
            } else {
                version = replace(x, version, weight);
                seen[weight] = true;
            }
        }
        return version;
    }
}
