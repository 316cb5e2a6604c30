/**
 * The boundary cases of the document's refusals and its store: a test for each sentence, named in its
 * remark.
 */
public final class RefusalBoundariesTest {
    private static final int MIN = Trees.MIN;
    private static final int MAX = Trees.MAX;
    private static final int BADVER = -1;
    private static final int NOHANDLE = -2;
    private static final int NOROOM = -3;
    private static final int MIXED = -4;

    private RefusalBoundariesTest() {
    }

    public static void main(String[] args) {
        badverWhenNotLive();
        mixedWhenKeysMeet();
        mixedWhateverTheShape();
        nohandleWhenAllAreLive();
        noroomForPut();
        noroomForRemoveAndBelow();
        noroomForJoin();
        noroomInTheLargestStore();
        noroomCountsLiveTreesAlone();
        noroomCountsSharedNodesOnce();
        badverBeforeMixed();
        badverBeforeNohandle();
        badverBeforeNoroom();
        mixedBeforeNohandle();
        mixedBeforeNoroom();
        nohandleBeforeNoroom();
        firstOfAllRefusals();
        refusalsChangeNothing();
        noroomChangesTheStoreAlone();
        noroomDrawsNoWeight();
        leastHandleIsTheAnswer();
        usedAtFirst();
        everyFreshNodeUsesOne();
        notSweptUpToC();
        sweptBeyondC();
        sweptAlsoWhenNoroom();
        sweptEachTime();
        nothingFreshSweepsNothing();
        sweepLeavesLiveVersions();
        Check.end();
    }

    private static void answers(String what, int due, Check.Call call) {
        Check.same(what, due, call);
    }

    private static void counts(String what, String due, TreapVersions x) {
        Check.text(what, due, () -> Trees.counts(x));
    }

    /** Versions 1, with the key 1, and 2, with 1 and then 2 under it: three nodes. */
    private static TreapVersions twoKeys(int room, int versions) {
        TreapVersions x = Trees.withWeights(room, versions, 7, 5, 3);
        answers("put 1", 1, () -> x.put(0, 1, 10));
        answers("put 2", 2, () -> x.put(1, 2, 20));
        return x;
    }

    /** Versions 1, with the key 1, and 2, with the key 2: two nodes. */
    private static TreapVersions lowerAndUpper(int room, int versions) {
        TreapVersions x = Trees.withWeights(room, versions, 7, 5, 3);
        answers("put 1", 1, () -> x.put(0, 1, 10));
        answers("put 2", 2, () -> x.put(0, 2, 20));
        return x;
    }

    /** Makes all handles live, with the tree of handle 0. */
    private static void fillHandles(TreapVersions x) {
        for (int i = 0; i < 8; i++) {
            x.remove(0, MAX);
        }
    }

    private static void allAnswer(String what, int due, TreapVersions x, int version) {
        answers(what + ": put of a new key", due, () -> x.put(version, 77, 1));
        answers(what + ": put", due, () -> x.put(version, 1, 1));
        answers(what + ": remove", due, () -> x.remove(version, 1));
        answers(what + ": remove under the root", due, () -> x.remove(version, 2));
        answers(what + ": remove of no key", due, () -> x.remove(version, 78));
        answers(what + ": below", due, () -> x.below(version, MAX));
        answers(what + ": below of nothing", due, () -> x.below(version, MIN));
    }

    /** Terms: "BADVER when a version is not live": none such, not yet, or not any more. */
    private static void badverWhenNotLive() {
        for (int versions : Trees.row(1, 4, 8)) {
            TreapVersions x = new TreapVersions(40, versions, 1);
            for (int version : Trees.row(MIN, -4, -3, -2, -1, 1, versions, versions + 1, 40, 41, MAX)) {
                allAnswer(version + " of " + versions, BADVER, x, version);
                answers("join of " + version + " and 0", BADVER, () -> x.join(version, 0));
                answers("join of 0 and " + version, BADVER, () -> x.join(0, version));
                answers("join of " + version + " and itself", BADVER, () -> x.join(version, version));
            }
            x.drop(0);
            allAnswer("0, dropped", BADVER, x, 0);
            answers("join of 0, dropped, and itself", BADVER, () -> x.join(0, 0));
        }
    }

    /** Terms: "MIXED when trees to be joined are not as said": "all keys of T being less than all of U". */
    private static void mixedWhenKeysMeet() {
        isMixed(Trees.row(5), Trees.row(5));
        isMixed(Trees.row(6), Trees.row(5));
        isJoined(Trees.row(5), Trees.row(6));
        isMixed(Trees.row(0), Trees.row(0));
        isMixed(Trees.row(MAX), Trees.row(MIN));
        isMixed(Trees.row(MIN), Trees.row(MIN));
        isMixed(Trees.row(MAX), Trees.row(MAX));
        isJoined(Trees.row(MIN), Trees.row(MAX));
        TreapVersions x = lowerAndUpper(40, 8);
        answers("join with itself", MIXED, () -> x.join(1, 1));
        answers("join of none with itself", 3, () -> x.join(0, 0));
    }

    /** Terms: "MIXED when trees to be joined are not as said": it hangs on all keys, not on the roots. */
    private static void mixedWhateverTheShape() {
        isJoined(Trees.row(1, 5), Trees.row(6, 9));
        isMixed(Trees.row(1, 5), Trees.row(5, 9));
        isMixed(Trees.row(1, 5), Trees.row(4, 9));
        isMixed(Trees.row(1, 5), Trees.row(3));
        isMixed(Trees.row(3), Trees.row(1, 5));
        isMixed(Trees.row(6, 9), Trees.row(1, 5));
        isMixed(Trees.row(1, 3, 5), Trees.row(2, 4, 6));
        isJoined(Trees.row(1, 2, 3), Trees.row(4, 5, 6));
        isMixed(Trees.row(2, 3, 4), Trees.row(4, 5, 6));
    }

    private static void isMixed(int[] lower, int[] upper) {
        joinAnswers(true, lower, upper);
    }

    private static void isJoined(int[] lower, int[] upper) {
        joinAnswers(false, lower, upper);
    }

    /** The same keys with many seeds have many shapes. */
    private static void joinAnswers(boolean mixed, int[] lower, int[] upper) {
        for (int seed = 0; seed < 12; seed++) {
            TreapVersions x = new TreapVersions(40, 8, seed);
            int a = Trees.putAll(x, 0, lower);
            int b = Trees.putAll(x, 0, upper);
            String what = "seed " + seed + ": join of " + Trees.shape(x, a) + " and " + Trees.shape(x, b);
            long answer = Check.answerOf(() -> x.join(a, b));
            if (mixed) {
                Check.same(what, MIXED, answer);
            } else {
                Check.same(what + ": size", lower.length + upper.length, x.size((int) answer));
            }
        }
    }

    /** Terms: "NOHANDLE when all handles are live", also when nothing would be fresh. */
    private static void nohandleWhenAllAreLive() {
        for (int versions = 1; versions <= 8; versions++) {
            TreapVersions x = new TreapVersions(40, versions, 1);
            fillHandles(x);
            int last = versions - 1;
            allAnswer("all of " + versions + " live", NOHANDLE, x, last);
            answers("all live: join", NOHANDLE, () -> x.join(0, last));
            counts("NOHANDLE changes nothing", "0 nodes, 0 used, 0 sweeps", x);
            if (versions > 1) {
                x.drop(last);
                answers("one not live", last, () -> x.put(0, 1, 1));
            }
        }
    }

    /**
     * Terms: "NOROOM when the nodes that are in trees of live versions and the fresh ones are more
     * than C together": put.
     */
    private static void noroomForPut() {
        for (int room = 1; room <= 4; room++) {
            TreapVersions x = Trees.withWeights(room, 8, 7, 5);
            answers("a new key, 0 + 1 of " + room, 1, () -> x.put(0, 1, 1));
            answers("a new key, 1 + 2 of " + room, room < 3 ? NOROOM : 2, () -> x.put(1, 2, 2));
        }
        for (int room = 1; room <= 3; room++) {
            TreapVersions x = new TreapVersions(room, 8, 1);
            x.put(0, 1, 1);
            answers("an old key, 1 + 1 of " + room, room < 2 ? NOROOM : 2, () -> x.put(1, 1, 2));
            answers("an old key, 2 + 1 of " + room, room < 3 ? NOROOM : 3, () -> x.put(1, 1, 3));
        }
    }

    /** The same sentence: remove and below. Three nodes are in live trees, and one is fresh. */
    private static void noroomForRemoveAndBelow() {
        for (int room = 3; room <= 4; room++) {
            int due = room < 4 ? NOROOM : 3;
            TreapVersions x = twoKeys(room, 8);
            answers("remove of 2, 3 + 1 of " + room, due, () -> x.remove(2, 2));
            TreapVersions y = twoKeys(room, 8);
            answers("below 2, 3 + 1 of " + room, due, () -> y.below(2, 2));
            TreapVersions z = twoKeys(room, 8);
            answers("remove of 1, 3 + 0 of " + room, 3, () -> z.remove(2, 1));
            answers("remove of no key, 3 + 0 of " + room, 4, () -> z.remove(2, 9));
            answers("below 1, 3 + 0 of " + room, 5, () -> z.below(2, 1));
        }
    }

    /** The same sentence: join. Two nodes are in live trees, and one is fresh. */
    private static void noroomForJoin() {
        for (int room = 2; room <= 3; room++) {
            TreapVersions x = lowerAndUpper(room, 8);
            answers("join, 2 + 1 of " + room, room < 3 ? NOROOM : 3, () -> x.join(1, 2));
            TreapVersions y = lowerAndUpper(room, 8);
            answers("join with none, 2 + 0 of " + room, 3, () -> y.join(1, 0));
        }
    }

    /**
     * The same sentence at the largest C: a chain of 19 nodes, whose way is all of it, beside one or
     * two nodes.
     */
    private static void noroomInTheLargestStore() {
        for (int beside = 1; beside <= 2; beside++) {
            TreapVersions x = new TreapVersions(40, 8, 1);
            int chain = chainOf19(x);
            Check.same("the chain's last has 18 above it", 18, () -> x.depth(chain, x.keyAt(chain, 18)));
            for (int i = 0; i < beside; i++) {
                Trees.putAll(x, 0, i);
            }
            String what = (19 + beside) + " + 20 of 40";
            answers(what, beside == 1 ? 3 : NOROOM, () -> x.put(chain, 9999, 1));
            Check.same(what + ": nodes", beside == 1 ? 40 : 21, x.nodes());
            Check.same(what + ": used", beside == 1 ? 40 : 21, x.used());
        }
    }

    /** The greater the weight the less the key: so each node goes above all with greater keys. */
    private static int chainOf19(TreapVersions x) {
        int state = 1;
        int version = 0;
        for (int i = 0; i < 19; i++) {
            state = state * 1103515245 + 12345;
            int weight = (state >>> 16) & 15;
            int next = x.put(version, (15 - weight) * 100 + i, i);
            if (version != 0) {
                x.drop(version);
            }
            version = next;
        }
        return version;
    }

    /**
     * Terms: "the nodes that are in trees of live versions": those of dropped versions are in no one's
     * way.
     */
    private static void noroomCountsLiveTreesAlone() {
        TreapVersions x = twoKeys(3, 8);
        answers("put 1 in 2, 3 + 1 of 3", NOROOM, () -> x.put(2, 1, 11));
        x.drop(1);
        answers("put 1 in 2, 2 + 1 of 3", 1, () -> x.put(2, 1, 11));
        answers("put 1 in 2, 3 + 1 of 3", NOROOM, () -> x.put(2, 1, 12));
        x.drop(2);
        answers("put 1 in 1, 2 + 1 of 3: 2 is left to 1", 2, () -> x.put(1, 1, 12));
    }

    /**
     * Terms: "the nodes that are in trees of live versions and the fresh ones [...] together": "trees
     * may have nodes in common".
     */
    private static void noroomCountsSharedNodesOnce() {
        TreapVersions x = new TreapVersions(2, 8, 1);
        x.put(0, 1, 1);
        x.remove(1, 9);
        x.remove(1, 9);
        answers("a node in three trees, 1 + 1 of 2", 4, () -> x.put(1, 1, 2));
        counts("a node in three trees", "2 nodes, 2 used, 0 sweeps", x);
    }

    /** Terms: "by the first of these: BADVER [...]; MIXED": the trees of dropped versions would be mixed. */
    private static void badverBeforeMixed() {
        TreapVersions x = lowerAndUpper(40, 8);
        x.remove(2, 9);
        x.drop(2);
        answers("join of 2, dropped, and 1", BADVER, () -> x.join(2, 1));
        answers("join of 3 and 2, dropped", BADVER, () -> x.join(3, 2));
        x.drop(1);
        answers("join of 2 and 1, both dropped", BADVER, () -> x.join(2, 1));
        answers("join of 3 and 1, dropped", BADVER, () -> x.join(3, 1));
        answers("join of 3 and 3", MIXED, () -> x.join(3, 3));
    }

    /** Terms: "by the first of these: BADVER [...]; NOHANDLE". */
    private static void badverBeforeNohandle() {
        for (int versions : Trees.row(1, 4, 8)) {
            TreapVersions x = new TreapVersions(40, versions, 1);
            fillHandles(x);
            for (int version : Trees.row(MIN, -1, versions, MAX)) {
                allAnswer("all live and " + version, BADVER, x, version);
                answers("all live: join of " + version + " and 0", BADVER, () -> x.join(version, 0));
                answers("all live: join of 0 and " + version, BADVER, () -> x.join(0, version));
            }
        }
    }

    /** Terms: "by the first of these: BADVER [...]; NOROOM": and BADVER does not sweep. */
    private static void badverBeforeNoroom() {
        TreapVersions x = twoKeys(3, 8);
        x.drop(x.remove(2, 9));
        allAnswer("a full store and one dropped", BADVER, x, 3);
        allAnswer("a full store and one not live yet", BADVER, x, 4);
        allAnswer("a full store and -1", BADVER, x, -1);
        counts("BADVER does not sweep", "3 nodes, 3 used, 0 sweeps", x);
        answers("a full store and one live", NOROOM, () -> x.put(2, 1, 11));
        TreapVersions y = lowerAndUpper(2, 8);
        y.remove(2, 9);
        y.drop(2);
        answers("a full store: join of 1 and 2, dropped", BADVER, () -> y.join(1, 2));
        counts("BADVER does not sweep at a join", "2 nodes, 2 used, 0 sweeps", y);
        answers("a full store: join of 1 and 3", NOROOM, () -> y.join(1, 3));
    }

    /** Terms: "by the first of these: [...] MIXED [...]; NOHANDLE". */
    private static void mixedBeforeNohandle() {
        TreapVersions x = lowerAndUpper(40, 3);
        answers("all live: join of 1 and 2", NOHANDLE, () -> x.join(1, 2));
        answers("all live: join of 2 and 1", MIXED, () -> x.join(2, 1));
        answers("all live: join of 1 and 1", MIXED, () -> x.join(1, 1));
    }

    /** Terms: "by the first of these: [...] MIXED [...]; NOROOM": and MIXED does not sweep. */
    private static void mixedBeforeNoroom() {
        TreapVersions x = lowerAndUpper(2, 8);
        answers("a full store: join of 2 and 1", MIXED, () -> x.join(2, 1));
        answers("a full store: join of 1 and 1", MIXED, () -> x.join(1, 1));
        counts("MIXED does not sweep", "2 nodes, 2 used, 0 sweeps", x);
        answers("a full store: join of 1 and 2", NOROOM, () -> x.join(1, 2));
        counts("NOROOM does", "2 nodes, 2 used, 1 sweeps", x);
    }

    /** Terms: "by the first of these: [...] NOHANDLE [...]; NOROOM": and NOHANDLE does not sweep. */
    private static void nohandleBeforeNoroom() {
        TreapVersions x = twoKeys(3, 3);
        allAnswer("all live in a full store", NOHANDLE, x, 2);
        TreapVersions y = lowerAndUpper(2, 3);
        answers("all live in a full store: join", NOHANDLE, () -> y.join(1, 2));
        counts("NOHANDLE does not sweep", "3 nodes, 3 used, 0 sweeps", x);
        counts("NOHANDLE does not sweep at a join", "2 nodes, 2 used, 0 sweeps", y);
        x.drop(0);
        answers("a handle again: put", NOROOM, () -> x.put(2, 3, 30));
        answers("a handle again: remove", NOROOM, () -> x.remove(2, 2));
        answers("a handle again: below", NOROOM, () -> x.below(2, 2));
        y.drop(0);
        answers("a handle again: join", NOROOM, () -> y.join(1, 2));
    }

    /**
     * Terms: "by the first of these", where all would hold: the store is full, all handles are live,
     * the trees are mixed.
     */
    private static void firstOfAllRefusals() {
        TreapVersions x = lowerAndUpper(2, 3);
        answers("also not live", BADVER, () -> x.join(2, 3));
        answers("not mixed by 0, but not live", BADVER, () -> x.join(-1, 0));
        answers("also mixed", MIXED, () -> x.join(2, 1));
        answers("no handle", NOHANDLE, () -> x.join(1, 2));
        x.drop(0);
        answers("no room", NOROOM, () -> x.join(1, 2));
    }

    /**
     * Terms: "An update is refused, changing nothing but what is said": of BADVER, MIXED and NOHANDLE
     * nothing is said.
     */
    private static void refusalsChangeNothing() {
        TreapVersions x = Trees.fourKeys(40);
        TreapVersions twin = Trees.fourKeys(40);
        allAnswer("not live", BADVER, x, 5);
        answers("join of 4 and 5", BADVER, () -> x.join(4, 5));
        answers("join of 4 and 1", MIXED, () -> x.join(4, 1));
        Check.text("behind BADVER and MIXED", Trees.state(twin, 5), () -> Trees.state(x, 5));
        for (TreapVersions one : new TreapVersions[] {x, twin}) {
            fillHandles(one);
        }
        allAnswer("all live", NOHANDLE, x, 4);
        answers("join of 0 and 4", NOHANDLE, () -> x.join(0, 4));
        counts("behind NOHANDLE", Trees.counts(twin), x);
        x.drop(7);
        twin.drop(7);
        answers("a handle again", 7, () -> x.put(4, 3, 30));
        Trees.isTree("behind them all the next weight is the same", x, 7, Trees.shape(twin, twin.put(4, 3, 30)));
    }

    /**
     * Terms: "changing nothing but what is said" of NOROOM: "the store is SWEPT first [...] (also when
     * the update is NOROOM then)".
     */
    private static void noroomChangesTheStoreAlone() {
        TreapVersions x = Trees.fourKeys(8);
        x.drop(1);
        String before = Trees.state(x, 5);
        counts("before", "7 nodes, 8 used, 0 sweeps", x);
        answers("put of a new key", NOROOM, () -> x.put(4, 3, 30));
        answers("put", NOROOM, () -> x.put(4, 1, 11));
        answers("remove", NOROOM, () -> x.remove(4, 1));
        answers("below", NOROOM, () -> x.below(4, 7));
        Check.text("the versions behind NOROOM", before, () -> Trees.state(x, 5));
        Check.holds("no handle is live by NOROOM", !x.isLive(1) && !x.isLive(5) && !x.isLive(6) && !x.isLive(7));
        counts("behind NOROOM", "7 nodes, 7 used, 4 sweeps", x);
    }

    /** Terms: "(no weight is drawn then)". */
    private static void noroomDrawsNoWeight() {
        TreapVersions x = Trees.withWeights(5, 8, 5, 3, 9, 1);
        x.put(0, 1, 1);
        x.put(1, 2, 2);
        answers("put 3, 3 + 3 of 5", NOROOM, () -> x.put(2, 3, 3));
        answers("put 4, 3 + 3 of 5", NOROOM, () -> x.put(2, 4, 4));
        x.drop(1);
        answers("put 3, 2 + 3 of 5", 1, () -> x.put(2, 3, 3));
        Trees.isTree("3 has the third weight, 9", x, 1, "3(1(-,2),-)");
    }

    /**
     * Terms: "Else the least handle that is not live is live and stands for the tree made: it is the
     * answer."
     */
    private static void leastHandleIsTheAnswer() {
        TreapVersions x = new TreapVersions(40, 8, 1);
        for (int handle = 1; handle < 8; handle++) {
            int due = handle;
            answers("handle " + handle + " comes next", due, () -> x.put(0, due, due));
        }
        x.drop(6);
        x.drop(0);
        x.drop(3);
        answers("the least, 0", 0, () -> x.put(7, 50, 1));
        answers("then 3", 3, () -> x.below(7, 7));
        answers("then the last, 6", 6, () -> x.remove(7, 7));
        answers("then none", NOHANDLE, () -> x.remove(7, 7));
        Check.same("0 stands for what put made", 2, x.size(0));
        Check.same("3 stands for what below made", 0, x.size(3));
        Check.same("6 stands for what remove made", 0, x.size(6));
        x.drop(7);
        answers("the greatest handle, 7", 7, () -> x.join(1, 2));
        Check.same("7 stands for what join made", 2, x.size(7));
        Check.holds("all are live", x.isLive(0) && x.isLive(3) && x.isLive(6) && x.isLive(7));
    }

    /** Terms: "USED are at first none", whatever C is. */
    private static void usedAtFirst() {
        for (int room : Trees.row(MIN, 0, 1, 20, 40, 41, MAX)) {
            counts("new, " + room, "0 nodes, 0 used, 0 sweeps", new TreapVersions(room, 4, 1));
        }
    }

    /** Terms: "every fresh node uses one", and a dropped version gives none back. */
    private static void everyFreshNodeUsesOne() {
        TreapVersions x = twoKeys(40, 8);
        counts("1, then 2 more", "3 nodes, 3 used, 0 sweeps", x);
        x.drop(1);
        counts("a drop leaves what is used", "2 nodes, 3 used, 0 sweeps", x);
        x.drop(2);
        counts("a second drop too", "0 nodes, 3 used, 0 sweeps", x);
        x.remove(0, 1);
        x.below(0, 1);
        x.join(0, 1);
        counts("nothing fresh uses nothing", "0 nodes, 3 used, 0 sweeps", x);
    }

    /** Terms: "When an update would use more than C, the store is SWEPT first": C itself is not more. */
    private static void notSweptUpToC() {
        for (int room : Trees.row(1, 2, 20, 40)) {
            TreapVersions x = new TreapVersions(room, 2, 1);
            for (int i = 1; i <= room; i++) {
                x.drop(x.put(0, i, i));
                counts(i + " of " + room, "0 nodes, " + i + " used, 0 sweeps", x);
            }
        }
    }

    /**
     * Terms: "used is then as many as nodes are in trees of live versions": and what the update makes
     * comes to it.
     */
    private static void sweptBeyondC() {
        for (int room : Trees.row(1, 2, 20, 40)) {
            TreapVersions x = new TreapVersions(room, 2, 1);
            for (int i = 0; i < room; i++) {
                x.drop(x.put(0, i, i));
            }
            answers("one more than " + room, 1, () -> x.put(0, 5, 5));
            counts("one more than " + room, "1 nodes, 1 used, 1 sweeps", x);
        }
        TreapVersions y = twoKeys(4, 8);
        y.drop(1);
        answers("3 + 2 of 4, and 2 + 2 behind the sweep", 1, () -> y.put(2, 2, 22));
        counts("3 + 2 of 4", "4 nodes, 4 used, 1 sweeps", y);
        y.drop(2);
        answers("4 + 1 of 4, and 2 + 1 behind the sweep", 2, () -> y.remove(1, 2));
        counts("4 + 1 of 4", "3 nodes, 3 used, 2 sweeps", y);
        answers("3 + 1 of 4", 3, () -> y.below(1, 2));
        counts("3 + 1 of 4", "4 nodes, 4 used, 2 sweeps", y);
        y.drop(2);
        y.drop(3);
        answers("4 + 1 of 4: below", 2, () -> y.below(1, 2));
        counts("4 + 1 of 4: below", "3 nodes, 3 used, 3 sweeps", y);
    }

    /**
     * Terms: "used is then as many as nodes are in trees of live versions (also when the update is
     * NOROOM then)".
     */
    private static void sweptAlsoWhenNoroom() {
        TreapVersions x = twoKeys(4, 8);
        x.drop(1);
        counts("before", "2 nodes, 3 used, 0 sweeps", x);
        answers("put, 2 + 3 of 4", NOROOM, () -> x.put(2, 3, 30));
        counts("behind put", "2 nodes, 2 used, 1 sweeps", x);
        TreapVersions y = twoKeys(3, 8);
        y.remove(1, 9);
        answers("remove, 3 + 1 of 3", NOROOM, () -> y.remove(2, 2));
        counts("behind remove", "3 nodes, 3 used, 1 sweeps", y);
        answers("below, 3 + 1 of 3", NOROOM, () -> y.below(2, 2));
        counts("behind below", "3 nodes, 3 used, 2 sweeps", y);
        TreapVersions z = Trees.withWeights(3, 8, 7, 5, 3);
        z.drop(z.put(0, 5, 50));
        z.put(0, 1, 10);
        z.put(0, 2, 20);
        z.put(1, 1, 11);
        counts("one swept for the put", "3 nodes, 3 used, 1 sweeps", z);
        answers("join, 3 + 1 of 3", NOROOM, () -> z.join(1, 2));
        counts("behind join", "3 nodes, 3 used, 2 sweeps", z);
    }

    /**
     * Terms: "When an update would use more than C, the store is SWEPT first": each time, though the
     * last sweep left nothing to free.
     */
    private static void sweptEachTime() {
        TreapVersions x = twoKeys(3, 8);
        for (int i = 1; i <= 5; i++) {
            answers("put, 3 + 3 of 3", NOROOM, () -> x.put(2, 3, 30));
            counts("again", "3 nodes, 3 used, " + i + " sweeps", x);
        }
    }

    /** Terms: "would use more than C": an update with nothing fresh does not, in a full store too. */
    private static void nothingFreshSweepsNothing() {
        TreapVersions x = twoKeys(3, 8);
        x.drop(1);
        answers("remove of no key", 1, () -> x.remove(2, 9));
        answers("below of nothing", 3, () -> x.below(2, 1));
        answers("join with none", 4, () -> x.join(2, 0));
        answers("join of none", 5, () -> x.join(0, 2));
        answers("remove of the root over one tree", 6, () -> x.remove(2, 1));
        counts("a full store stays as it is", "2 nodes, 3 used, 0 sweeps", x);
    }

    /**
     * The first words: "leaves all others as they are [...] in one store of nodes that is swept when
     * it is full".
     */
    private static void sweepLeavesLiveVersions() {
        TreapVersions x = Trees.fourKeys(12);
        x.drop(1);
        x.drop(3);
        String before = Trees.state(x, 5);
        counts("before", "6 nodes, 8 used, 0 sweeps", x);
        for (int round = 0; round < 4; round++) {
            x.drop(x.put(4, 6, 600));
            x.drop(x.put(4, 3, 300));
            x.drop(x.remove(4, 4));
        }
        Check.holds("there were sweeps", x.sweeps() >= 4);
        Check.text("the versions behind sweeps", before, () -> Trees.state(x, 5));
    }
}
