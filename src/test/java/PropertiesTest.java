import java.util.ArrayList;
import java.util.List;
import java.util.Map;
import java.util.Random;
import java.util.TreeMap;

/**
 * What the document says of every version, whatever the calls were, held against the versions at the end
 * of many runs. No tree is built here: a version's keys with their values and weights are enough, for
 * only one tree can be made of them.
 */
public final class PropertiesTest {
    private static final int RUNS = 3000;
    private static final int MOST_UPDATES = 150;
    private static final int CALLS = 512;

    private record Entry(int value, int weight) {
    }

    private final Random random;
    private final int run;
    private final int room;
    private final int span;
    private final TreapVersions x;
    /** What the version of each handle has; null when it is not live. */
    private final List<TreeMap<Integer, Entry>> due = new ArrayList<>();
    private int seed;
    private int seedWhenMade;
    private int calls;
    private int usedBefore;
    private int sweepsBefore;

    private PropertiesTest(int run) {
        this.run = run;
        random = new Random(1000003L * run);
        room = 1 + random.nextInt(40);
        int handles = 1 + random.nextInt(8);
        span = 2 + random.nextInt(30);
        seed = random.nextInt();
        x = new TreapVersions(room, handles, seed);
        for (int handle = 0; handle < handles; handle++) {
            due.add(handle == 0 ? new TreeMap<>() : null);
        }
    }

    public static void main(String[] args) {
        for (int run = 0; run < RUNS; run++) {
            new PropertiesTest(run).play();
        }
        objectsStandAlone();
        Check.end();
    }

    private void play() {
        int updates = random.nextInt(MOST_UPDATES);
        for (int i = 0; i < updates; i++) {
            update();
            if (random.nextInt(4) == 0) {
                storeKeepsItsBounds();
            }
        }
        int first = random.nextInt(due.size());
        for (int i = 0; i < due.size(); i++) {
            int handle = (first + i) % due.size();
            isAsDue(handle);
            sharesBothWays(first, handle);
        }
    }

    private void update() {
        int a = random.nextInt(due.size());
        int b = random.nextInt(due.size());
        int k = random.nextInt(span);
        int v = random.nextInt();
        seedWhenMade = seed;
        calls++;
        switch (random.nextInt(8)) {
            case 0, 1, 2, 3 -> made("put", x.put(a, k, v), withPut(due.get(a), k, v));
            case 4 -> made("remove", x.remove(a, k), without(due.get(a), k));
            case 5 -> made("below", x.below(a, k), below(due.get(a), k));
            case 6 -> made("join", x.join(a, b), joined(due.get(a), due.get(b)));
            default -> drop(a);
        }
    }

    private TreeMap<Integer, Entry> withPut(TreeMap<Integer, Entry> before, int k, int v) {
        if (before == null) {
            return null;
        }
        TreeMap<Integer, Entry> after = new TreeMap<>(before);
        if (!before.containsKey(k)) {
            seedWhenMade = seed * 1103515245 + 12345;
        }
        int weight = before.containsKey(k) ? before.get(k).weight() : (seedWhenMade >>> 16) & 15;
        after.put(k, new Entry(v, weight));
        return after;
    }

    private static TreeMap<Integer, Entry> without(TreeMap<Integer, Entry> before, int k) {
        if (before == null) {
            return null;
        }
        TreeMap<Integer, Entry> after = new TreeMap<>(before);
        after.remove(k);
        return after;
    }

    private static TreeMap<Integer, Entry> below(TreeMap<Integer, Entry> before, int k) {
        return before == null ? null : new TreeMap<>(before.headMap(k));
    }

    private static TreeMap<Integer, Entry> joined(TreeMap<Integer, Entry> lower, TreeMap<Integer, Entry> upper) {
        if (lower == null || upper == null) {
            return null;
        }
        if (!lower.isEmpty() && !upper.isEmpty() && lower.lastKey() >= upper.firstKey()) {
            return null;
        }
        TreeMap<Integer, Entry> after = new TreeMap<>(lower);
        after.putAll(upper);
        return after;
    }

    /**
     * Terms: "Else the least handle that is not live is live and stands for the tree made: it is the
     * answer." What is shared is not known here, so NOROOM is taken as it comes; it changes no version.
     */
    private void made(String name, int answer, TreeMap<Integer, Entry> after) {
        String what = "run " + run + ": " + name + " answered " + answer;
        int least = due.indexOf(null);
        if (after == null) {
            Check.holds(what + ", due is BADVER or MIXED", answer == -1 || answer == -4);
        } else if (least < 0) {
            Check.holds(what + ", due is NOHANDLE", answer == -2);
        } else if (answer != -3) {
            Check.holds(what + ", due is " + least + " or NOROOM", answer == least);
            due.set(least, after);
            seed = seedWhenMade;
        }
    }

    /** Without a live version a run has nothing more to tell, so the last one stays. */
    private void drop(int handle) {
        if (liveOnes() > 1) {
            Check.holds("run " + run + ": drop of " + handle, x.drop(handle) == (due.get(handle) != null));
            due.set(handle, null);
        }
    }

    private int liveOnes() {
        int count = 0;
        for (TreeMap<Integer, Entry> version : due) {
            count += version != null ? 1 : 0;
        }
        return count;
    }

    /** Terms: "THE STORE has C places", and used falls by a sweep alone. */
    private void storeKeepsItsBounds() {
        int nodes = x.nodes();
        int used = x.used();
        int sweeps = x.sweeps();
        calls += 3;
        String what = "run " + run + ": " + nodes + " nodes, " + used + " used, " + sweeps + " sweeps of " + room;
        Check.holds(what, 0 <= nodes && nodes <= used && used <= room && sweepsBefore <= sweeps);
        Check.holds(what + ", before " + usedBefore + " used", usedBefore <= used || sweepsBefore < sweeps);
        usedBefore = used;
        sweepsBefore = sweeps;
    }

    /**
     * The first words: "an update makes another version and leaves all others as they are"; Terms: "All
     * keys in the left tree are less, all in the right one greater than the node's", "a node goes above
     * all in its left and right trees".
     */
    private void isAsDue(int handle) {
        TreeMap<Integer, Entry> version = due.get(handle);
        String what = "run " + run + ": version " + handle + ": ";
        calls++;
        Check.same(what + "size", version == null ? -1 : version.size(), x.size(handle));
        if (version == null || calls + 3 * version.size() > CALLS - 2 * due.size()) {
            return;
        }
        List<Integer> keys = new ArrayList<>(version.keySet());
        int[] depths = new int[keys.size()];
        setDepths(version, keys, depths, 0);
        calls += 3 * keys.size();
        for (int i = 0; i < depths.length; i++) {
            int at = i;
            int k = keys.get(i);
            Check.same(what + "keyAt " + i, k, () -> x.keyAt(handle, at));
            Check.same(what + "get " + k, version.get(k).value(), () -> x.get(handle, k));
            Check.same(what + "depth of " + k, depths[i], () -> x.depth(handle, k));
        }
    }

    /** The root is what goes above all others; of those with its weight it has the least key. */
    private static void setDepths(Map<Integer, Entry> version, List<Integer> keys, int[] depths, int from) {
        if (keys.isEmpty()) {
            return;
        }
        int root = 0;
        for (int i = 0; i < keys.size(); i++) {
            root = version.get(keys.get(i)).weight() > version.get(keys.get(root)).weight() ? i : root;
        }
        for (int i = 0; i < keys.size(); i++) {
            depths[from + i] += i == root ? 0 : 1;
        }
        setDepths(version, keys.subList(0, root), depths, from);
        setDepths(version, keys.subList(root + 1, keys.size()), depths, from + root + 1);
    }

    /** Promise 15: "How many nodes two versions have in common", whichever is named first. */
    private void sharesBothWays(int a, int b) {
        if (calls + 2 > CALLS) {
            return;
        }
        calls += 2;
        int common = x.shared(a, b);
        String what = "run " + run + ": shared of " + a + " and " + b;
        Check.same(what, common, x.shared(b, a));
        if (due.get(a) == null || due.get(b) == null) {
            Check.same(what, -1, common);
        } else {
            int least = Math.min(due.get(a).size(), due.get(b).size());
            Check.holds(what + " is " + common, a == b ? common == least : 0 <= common && common <= least);
        }
    }

    /** Promise 1: a new object is as said, whatever was done to others, and each keeps to itself. */
    private static void objectsStandAlone() {
        for (int seed = 0; seed < 20; seed++) {
            TreapVersions alone = new TreapVersions(12, 5, seed);
            TreapVersions between = new TreapVersions(12, 5, seed);
            TreapVersions other = new TreapVersions(30, 8, seed + 1);
            List<Long> answers = new ArrayList<>();
            for (int i = 0; i < CALLS; i++) {
                answers.add(answer(alone, i));
            }
            for (int i = 0; i < CALLS; i++) {
                answer(other, CALLS - i);
                Check.same("seed " + seed + ": call " + i + " between calls of another", answers.get(i), answer(between, i));
            }
        }
    }

    private static long answer(TreapVersions x, int call) {
        Random random = new Random(7919L * call);
        int a = random.nextInt(5);
        int b = random.nextInt(5);
        int k = random.nextInt(9);
        return Check.answerOf(() -> switch (random.nextInt(16)) {
            case 0 -> x.remove(a, k);
            case 1 -> x.below(a, k);
            case 2 -> x.join(a, b);
            case 3, 4 -> x.drop(1 + a) ? 1 : 0;
            case 5 -> x.get(a, k);
            case 6 -> x.depth(a, k);
            case 7 -> x.sum(a, 0, k);
            case 8 -> x.shared(a, b);
            case 9 -> x.nodes();
            case 10 -> x.used();
            case 11 -> x.sweeps();
            default -> x.put(a, k, call);
        });
    }
}
