/** Objects whose weights a test chooses, and their trees as texts. */
final class Trees {
    static final int MIN = Integer.MIN_VALUE;
    static final int MAX = Integer.MAX_VALUE;

    private Trees() {
    }

    static int[] row(int... numbers) {
        return numbers;
    }

    /** A seed whose first weights are these. A weight hangs on the lowest 20 bits of a seed alone. */
    static int seedFor(int... weights) {
        for (int seed = 0; seed < 1 << 20; seed++) {
            int state = seed;
            int drawn = 0;
            while (drawn < weights.length) {
                state = state * 1103515245 + 12345;
                if (((state >>> 16) & 15) != weights[drawn]) {
                    break;
                }
                drawn++;
            }
            if (drawn == weights.length) {
                return seed;
            }
        }
        throw new IllegalStateException("no seed draws these weights");
    }

    static TreapVersions withWeights(int room, int versions, int... weights) {
        return new TreapVersions(room, versions, seedFor(weights));
    }

    /** Handle 4 is the tree 4(2(1,-),6) with weights 9, 5, 7, 3; the handles 0 .. 3 are what led to it. */
    static TreapVersions fourKeys(int room) {
        TreapVersions x = withWeights(room, 8, 9, 5, 7, 3);
        Check.same("four keys: put 4", 1, x.put(0, 4, 40));
        Check.same("four keys: put 2", 2, x.put(1, 2, 20));
        Check.same("four keys: put 6", 3, x.put(2, 6, 60));
        Check.same("four keys: put 1", 4, x.put(3, 1, 10));
        return x;
    }

    /**
     * Puts the keys one behind the other, each with ten times itself as its value, and drops what is
     * between; the answer is the last version. The version that it begins with stays.
     */
    static int putAll(TreapVersions x, int version, int... keys) {
        int last = version;
        for (int k : keys) {
            int next = x.put(last, k, k * 10);
            if (last != version) {
                x.drop(last);
            }
            last = next;
        }
        return last;
    }

    /** Holds a version against a shape. */
    static void isTree(String what, TreapVersions x, int version, String shape) {
        Check.text(what, shape, () -> shape(x, version));
    }

    /** A version's tree: "-" for none, "5" for a node alone, "5(2,-)" for one with a left tree and no right one. */
    static String shape(TreapVersions x, int version) {
        if (!x.isLive(version)) {
            return "not live";
        }
        int[] keys = new int[Math.min(40, x.size(version))];
        int[] depths = new int[keys.length];
        for (int i = 0; i < keys.length; i++) {
            keys[i] = x.keyAt(version, i);
            depths[i] = x.depth(version, keys[i]);
        }
        return shape(keys, depths, 0, keys.length, 0);
    }

    /** Of the keys from .. to - 1 one has the level's depth: it is the root over the others. */
    private static String shape(int[] keys, int[] depths, int from, int to, int level) {
        if (from >= to) {
            return "-";
        }
        int root = from;
        while (root < to && depths[root] != level) {
            root++;
        }
        if (root == to) {
            return "no root";
        }
        if (to - from == 1) {
            return Integer.toString(keys[root]);
        }
        String left = shape(keys, depths, from, root, level + 1);
        return keys[root] + "(" + left + "," + shape(keys, depths, root + 1, to, level + 1) + ")";
    }

    /** The keys of a version with their values. */
    static String entries(TreapVersions x, int version) {
        StringBuilder text = new StringBuilder();
        int size = x.size(version);
        for (int i = 0; i < size; i++) {
            int k = x.keyAt(version, i);
            text.append(i > 0 ? " " : "").append(k).append(":").append(x.get(version, k));
        }
        return text.toString();
    }

    /** All that can be seen of the versions with the handles 0 .. handles - 1, and what they share. */
    static String state(TreapVersions x, int handles) {
        StringBuilder text = new StringBuilder();
        for (int a = 0; a < handles; a++) {
            text.append(a).append(" is ").append(shape(x, a)).append(" ").append(entries(x, a)).append(" and shares");
            for (int b = 0; b < a; b++) {
                text.append(" ").append(x.shared(a, b));
            }
            text.append("; ");
        }
        return text.append("nodes ").append(x.nodes()).toString();
    }

    /** What nodes, used and sweeps answer. */
    static String counts(TreapVersions x) {
        return x.nodes() + " nodes, " + x.used() + " used, " + x.sweeps() + " sweeps";
    }
}
