import java.util.Map;
import java.util.Random;
import java.util.TreeMap;

/** Long runs of many calls, each answer compared with that of the plain model; the same runs every time. */
public final class ModelTest {
    private static final int RUNS = 6000;
    private static final int CALLS = 512;
    private static final int[] EDGES = {Integer.MIN_VALUE, Integer.MIN_VALUE + 1, -1, 0, 1, Integer.MAX_VALUE - 1, Integer.MAX_VALUE};
    private static final String[] EXPECTED = {
        "put made", "put -1", "put -2", "put -3", "remove made", "remove -1", "remove -2", "remove -3",
        "below made", "below -1", "below -2", "below -3", "join made", "join -1", "join -2", "join -3", "join -4",
        "join of two with keys", "swept and made"};

    private final Random random;
    private final Map<String, Integer> seen;
    private final int run;
    private final int room;
    private final int versions;
    private final int keys;
    private final int updates;
    private final TreapVersions real;
    private final TreapModel model;

    private ModelTest(int run, Map<String, Integer> seen) {
        this.run = run;
        this.seen = seen;
        random = new Random(run);
        room = random.nextInt(10) == 0 ? random.nextInt(100) - 50 : 1 + random.nextInt(40);
        versions = random.nextInt(10) == 0 ? random.nextInt(30) - 10 : 1 + random.nextInt(8);
        keys = 2 + random.nextInt(24);
        updates = 20 + random.nextInt(70);
        int seed = random.nextInt();
        real = new TreapVersions(room, versions, seed);
        model = new TreapModel(room, versions, seed);
    }

    public static void main(String[] args) {
        Map<String, Integer> seen = new TreeMap<>();
        for (int run = 0; run < RUNS; run++) {
            new ModelTest(run, seen).play();
        }
        for (String kind : EXPECTED) {
            Check.holds("the runs have a case of: " + kind, seen.containsKey(kind));
        }
        Check.end();
    }

    private void play() {
        for (int call = 0; call < CALLS; call++) {
            if (random.nextInt(100) < updates) {
                update();
            } else {
                ask();
            }
        }
    }

    private int version() {
        return random.nextInt(12) == 0 ? edge(10) : random.nextInt(8);
    }

    private int key() {
        return edge(keys);
    }

    private int edge(int bound) {
        return random.nextInt(20) == 0 ? EDGES[random.nextInt(EDGES.length)] : random.nextInt(bound);
    }

    private void update() {
        int a = version();
        int b = version();
        int k = key();
        int v = random.nextInt();
        int sweepsBefore = model.sweeps();
        boolean twoWithKeys = model.bothHaveKeys(a, b);
        switch (random.nextInt(10)) {
            case 0, 1, 2, 3 -> made("put", sweepsBefore, model.put(a, k, v), Check.answerOf(() -> real.put(a, k, v)));
            case 4 -> made("remove", sweepsBefore, model.remove(a, k), Check.answerOf(() -> real.remove(a, k)));
            case 5 -> made("below", sweepsBefore, model.below(a, k), Check.answerOf(() -> real.below(a, k)));
            case 6 -> {
                int due = model.join(a, b);
                made("join", sweepsBefore, due, Check.answerOf(() -> real.join(a, b)));
                note(twoWithKeys && due >= 0 ? "join of two with keys" : "other join");
            }
            default -> drop(a);
        }
    }

    /** Once no version is live a run has nothing more to tell, so the last one is mostly kept. */
    private void drop(int a) {
        if (model.liveOnes() > 1 || random.nextInt(60) == 0) {
            same("drop", model.drop(a) ? 1 : 0, () -> real.drop(a) ? 1 : 0);
        }
    }

    private void made(String name, int sweepsBefore, int due, long got) {
        Check.same("run " + run + ": " + name, due, got);
        note(name + (due >= 0 ? " made" : " " + due));
        note(due >= 0 && model.sweeps() > sweepsBefore ? "swept and made" : "not swept");
    }

    private void ask() {
        int a = version();
        int b = version();
        int k = key();
        int other = key();
        int i = edge(12) - 1;
        switch (random.nextInt(12)) {
            case 0 -> same("isLive", model.isLive(a) ? 1 : 0, () -> real.isLive(a) ? 1 : 0);
            case 1 -> same("get", Check.answerOf(() -> model.get(a, k)), () -> real.get(a, k));
            case 2 -> same("contains", model.contains(a, k) ? 1 : 0, () -> real.contains(a, k) ? 1 : 0);
            case 3 -> same("size", model.size(a), () -> real.size(a));
            case 4 -> same("floor", Check.answerOf(() -> model.floor(a, k)), () -> real.floor(a, k));
            case 5 -> same("keyAt", Check.answerOf(() -> model.keyAt(a, i)), () -> real.keyAt(a, i));
            case 6 -> same("sum", model.sum(a, k, other), () -> real.sum(a, k, other));
            case 7 -> same("depth", Check.answerOf(() -> model.depth(a, k)), () -> real.depth(a, k));
            case 8 -> same("shared", model.shared(a, b), () -> real.shared(a, b));
            case 9 -> same("nodes", model.nodes(), () -> real.nodes());
            case 10 -> same("used", model.used(), () -> real.used());
            default -> same("sweeps", model.sweeps(), () -> real.sweeps());
        }
    }

    private void same(String name, long due, Check.Call call) {
        Check.same("run " + run + ": " + name, due, call);
    }

    private void note(String kind) {
        seen.merge(kind, 1, Integer::sum);
    }
}
