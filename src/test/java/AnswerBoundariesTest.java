/**
 * The boundary cases of promises 1 and 6 to 18, and of the 512 calls: a test for each sentence, named
 * in its remark.
 */
public final class AnswerBoundariesTest {
    private static final int MIN = Trees.MIN;
    private static final int MAX = Trees.MAX;
    private static final long NO_SUCH_ELEMENT = Check.NO_SUCH_ELEMENT;
    private static final long OUT_OF_BOUNDS = Check.OUT_OF_BOUNDS;
    /** Handles of no version, whatever V is. */
    private static final int[] NO_HANDLES = {MIN, MIN + 1, -5, -4, -3, -2, -1, 8, 9, 40, 41, MAX - 1, MAX};

    private AnswerBoundariesTest() {
    }

    public static void main(String[] args) {
        roomIs1To40();
        versionsAre1To8();
        roomAndVersionsStandAlone();
        smallestObject();
        handle0IsLiveAndNone();
        dropEndsAHandle();
        dropIsFalseWhenNotLive();
        dropOfAllHandles();
        isLiveOfHandles();
        getWhenNotLive();
        getWithoutK();
        getAtTheEndsOfInt();
        containsWhenNotLive();
        containsAtTheEdges();
        sizeOfVersions();
        sizeWhenNotLive();
        floorIsNotGreater();
        floorWhenThereIsNone();
        floorWhenNotLive();
        keyAtEachPlace();
        keyAtOutOfBounds();
        keyAtWhenNotLive();
        sumFromLowToHigh();
        sumBeyondInt();
        sumWhenNotLive();
        depthFromTheRoot();
        depthWithoutK();
        depthWhenNotLive();
        sharedNodes();
        sharedWhenNotLive();
        nodesOfLiveVersions();
        nodesUsedAndSweepsOfANewObject();
        nodesUsedAndSweepsBehindARefusal();
        nodesUsedAndSweepsBehindASweep();
        askingChangesNothing();
        lastOf512Calls();
        Check.end();
    }

    private static void answers(String what, long due, Check.Call call) {
        Check.same(what, due, call);
    }

    private static void counts(String what, String due, TreapVersions x) {
        Check.text(what, due, () -> Trees.counts(x));
    }

    /** Promise 1: "C is room, 20 when it is not 1 .. 40". */
    private static void roomIs1To40() {
        for (int room : Trees.row(1, 2, 19, 20, 21, 39, 40)) {
            Check.same("room " + room, room, placesOf(new TreapVersions(room, 4, 1)));
        }
        for (int room : Trees.row(MIN, -40, -20, -1, 0, 41, 42, 60, 256 + 5, MAX)) {
            Check.same("room " + room, 20, placesOf(new TreapVersions(room, 4, 1)));
        }
    }

    /** How many nodes fit before the first sweep. */
    private static int placesOf(TreapVersions x) {
        int places = 0;
        while (places < 100 && x.drop(x.put(0, 1, 1)) && x.sweeps() == 0) {
            places++;
        }
        return places;
    }

    /** Promise 1: "V is versions, 4 when it is not 1 .. 8". */
    private static void versionsAre1To8() {
        for (int versions = 1; versions <= 8; versions++) {
            Check.same("versions " + versions, versions, handlesOf(new TreapVersions(1, versions, 1)));
        }
        for (int versions : Trees.row(MIN, -8, -4, -1, 0, 9, 10, 256 + 2, MAX)) {
            Check.same("versions " + versions, 4, handlesOf(new TreapVersions(1, versions, 1)));
        }
    }

    /** How many handles are live when all are. */
    private static int handlesOf(TreapVersions x) {
        int handles = 1;
        while (handles < 100 && x.remove(0, 1) == handles) {
            handles++;
        }
        Check.same("then all handles are live", -2, x.remove(0, 1));
        return handles;
    }

    /** Promise 1: the two "when it is not" stand each for itself. */
    private static void roomAndVersionsStandAlone() {
        Check.same("room 0 with versions 8: C", 20, placesOf(new TreapVersions(0, 8, 1)));
        Check.same("room 0 with versions 8: V", 8, handlesOf(new TreapVersions(0, 8, 1)));
        Check.same("room 40 with versions 9: C", 40, placesOf(new TreapVersions(40, 9, 1)));
        Check.same("room 40 with versions 9: V", 4, handlesOf(new TreapVersions(40, 9, 1)));
        Check.same("room 41 with versions 0: C", 20, placesOf(new TreapVersions(41, 0, 1)));
        Check.same("room 41 with versions 0: V", 4, handlesOf(new TreapVersions(41, 0, 1)));
    }

    /**
     * Promise 1: C and V are both 1. The only handle is live, so no update is made; once dropped it is
     * never live again.
     */
    private static void smallestObject() {
        TreapVersions x = new TreapVersions(1, 1, 0);
        answers("put", -2, () -> x.put(0, 1, 1));
        answers("join", -2, () -> x.join(0, 0));
        Check.holds("drop", x.drop(0));
        answers("put when dropped", -1, () -> x.put(0, 1, 1));
        answers("join when dropped", -1, () -> x.join(0, 0));
        counts("nothing is made", "0 nodes, 0 used, 0 sweeps", x);
    }

    /** Promise 1: "Handle 0 is live, its tree none.": and no other handle is live. */
    private static void handle0IsLiveAndNone() {
        for (int versions : Trees.row(1, 4, 8, 0)) {
            TreapVersions x = new TreapVersions(0, versions, 0);
            Check.holds("0 is live", x.isLive(0));
            Trees.isTree("0 is none", x, 0, "-");
            for (int handle = 1; handle <= 8; handle++) {
                Check.holds(handle + " is not live", !x.isLive(handle));
            }
        }
    }

    /** Promise 6: "The handle is not live any more.": that one alone. */
    private static void dropEndsAHandle() {
        TreapVersions x = Trees.fourKeys(40);
        Check.holds("drop 0", x.drop(0));
        Check.holds("drop 3", x.drop(3));
        for (int handle = 0; handle <= 4; handle++) {
            Check.holds(handle + " behind the drops", x.isLive(handle) == (handle != 0 && handle != 3));
        }
        Trees.isTree("what shares nodes with 3 keeps them", x, 4, "4(2(1,-),6)");
        Trees.isTree("2 keeps its own", x, 2, "4(2,-)");
    }

    /** Promise 6: "False when it is not live (or none)." */
    private static void dropIsFalseWhenNotLive() {
        TreapVersions x = new TreapVersions(40, 2, 1);
        for (int version : NO_HANDLES) {
            Check.holds("drop of " + version, !x.drop(version));
        }
        Check.holds("drop of 2, which V has not", !x.drop(2));
        Check.holds("drop of 1, not live yet", !x.drop(1));
        x.put(0, 1, 1);
        Check.holds("drop of 1", x.drop(1));
        Check.holds("drop of 1 again", !x.drop(1));
        x.put(0, 1, 1);
        Check.holds("drop of 1, live again", x.drop(1));
        Check.holds("0 is still live", x.isLive(0));
    }

    /** Promise 6, the last handle too: behind it no version is live. */
    private static void dropOfAllHandles() {
        TreapVersions x = new TreapVersions(40, 8, 1);
        for (int k = 1; k < 8; k++) {
            x.put(0, k, k);
        }
        for (int handle = 7; handle >= 0; handle--) {
            Check.holds("drop of " + handle, x.drop(handle));
        }
        for (int handle = 0; handle < 8; handle++) {
            Check.holds(handle + " is not live", !x.isLive(handle));
        }
        counts("all are dropped", "0 nodes, 7 used, 0 sweeps", x);
    }

    /** Promise 7: "Whether a handle is live.": what is none is not. */
    private static void isLiveOfHandles() {
        TreapVersions x = new TreapVersions(40, 8, 1);
        for (int version : NO_HANDLES) {
            Check.holds(version + " is not live", !x.isLive(version));
        }
        for (int handle = 1; handle < 8; handle++) {
            Check.holds(handle + " is not live yet", !x.isLive(handle));
            x.put(0, 1, 1);
            Check.holds(handle + " is live", x.isLive(handle));
        }
        for (int version : NO_HANDLES) {
            Check.holds(version + " is not live when all are", !x.isLive(version));
        }
        x.drop(7);
        Check.holds("7 is not live any more", !x.isLive(7));
    }

    /** Promise 8: "NoSuchElementException when the version is not live". */
    private static void getWhenNotLive() {
        TreapVersions x = Trees.fourKeys(40);
        for (int version : NO_HANDLES) {
            answers("get of " + version, NO_SUCH_ELEMENT, () -> x.get(version, 4));
        }
        answers("get of one not live yet", NO_SUCH_ELEMENT, () -> x.get(5, 4));
        x.drop(4);
        answers("get of one dropped", NO_SUCH_ELEMENT, () -> x.get(4, 4));
    }

    /** Promise 8: "or has not k": in none too, and beside the keys that it has. */
    private static void getWithoutK() {
        TreapVersions x = Trees.fourKeys(40);
        for (int k : Trees.row(MIN, -1, 0, 3, 5, 7, MAX)) {
            answers("get of " + k, NO_SUCH_ELEMENT, () -> x.get(4, k));
            answers("get of " + k + " in none", NO_SUCH_ELEMENT, () -> x.get(0, k));
        }
        answers("get of 1, which a later version has", NO_SUCH_ELEMENT, () -> x.get(3, 1));
        x.remove(4, 1);
        answers("get of 1, removed", NO_SUCH_ELEMENT, () -> x.get(5, 1));
    }

    /** Promise 8: "The value of k.", keys and values at the ends of int and about 0. */
    private static void getAtTheEndsOfInt() {
        for (int k : Trees.row(MIN, -1, 0, 1, MAX)) {
            TreapVersions x = new TreapVersions(40, 8, 1);
            x.put(0, k, MIN);
            x.put(1, k, MAX);
            x.put(2, k, 0);
            answers("the least value of " + k, MIN, () -> x.get(1, k));
            answers("the greatest value of " + k, MAX, () -> x.get(2, k));
            answers("the value 0 of " + k, 0, () -> x.get(3, k));
        }
    }

    /** Promise 9: "false when it is not live". */
    private static void containsWhenNotLive() {
        TreapVersions x = Trees.fourKeys(40);
        for (int version : NO_HANDLES) {
            Check.holds("nothing in " + version, !x.contains(version, 4) && !x.contains(version, 0));
        }
        Check.holds("nothing in one not live yet", !x.contains(5, 4));
        x.drop(4);
        Check.holds("nothing in one dropped", !x.contains(4, 4));
    }

    /** Promise 9: "Whether a version has k": none has no key, and keys may be the ends of int. */
    private static void containsAtTheEdges() {
        TreapVersions x = Trees.fourKeys(40);
        for (int k : Trees.row(MIN, -1, 0, 1, 4, MAX)) {
            Check.holds("none has not " + k, !x.contains(0, k));
            int made = x.put(0, k, 0);
            Check.holds("it has " + k, x.contains(made, k));
            x.drop(made);
        }
        for (int k : Trees.row(MIN, 0, 3, 5, 7, MAX)) {
            Check.holds("beside its keys: " + k, !x.contains(4, k));
        }
        for (int k : Trees.row(1, 2, 4, 6)) {
            Check.holds("its keys: " + k, x.contains(4, k));
        }
    }

    /** Promise 10: "How many keys a version has", from none. */
    private static void sizeOfVersions() {
        TreapVersions x = Trees.fourKeys(40);
        for (int version = 0; version <= 4; version++) {
            Check.same("size of " + version, version, x.size(version));
        }
        Check.same("a value is put, no key", 4, x.size(x.put(4, 1, 11)));
        Check.same("all keys are removed", 0, x.size(x.remove(1, 4)));
    }

    /** Promise 10: "BADVER when it is not live". */
    private static void sizeWhenNotLive() {
        TreapVersions x = Trees.fourKeys(40);
        for (int version : NO_HANDLES) {
            Check.same("size of " + version, -1, x.size(version));
        }
        Check.same("size of one not live yet", -1, x.size(5));
        x.drop(4);
        Check.same("size of one dropped", -1, x.size(4));
    }

    /** Promise 11: "The greatest key that is not greater than k.": k itself when it is there. */
    private static void floorIsNotGreater() {
        TreapVersions x = Trees.fourKeys(40);
        int[] asked = Trees.row(1, 2, 3, 4, 5, 6, 7, MAX);
        int[] due = Trees.row(1, 2, 2, 4, 4, 6, 6, 6);
        for (int i = 0; i < asked.length; i++) {
            int k = asked[i];
            answers("floor of " + k, due[i], () -> x.floor(4, k));
        }
        TreapVersions y = new TreapVersions(40, 8, 1);
        int ends = Trees.putAll(y, 0, MIN, MAX);
        answers("floor of the least int", MIN, () -> y.floor(ends, MIN));
        answers("floor of 0", MIN, () -> y.floor(ends, 0));
        answers("floor of one less than the greatest int", MIN, () -> y.floor(ends, MAX - 1));
        answers("floor of the greatest int", MAX, () -> y.floor(ends, MAX));
    }

    /** Promise 11: "NoSuchElementException when there is none". */
    private static void floorWhenThereIsNone() {
        TreapVersions x = Trees.fourKeys(40);
        for (int k : Trees.row(0, -1, MIN)) {
            answers("floor of " + k, NO_SUCH_ELEMENT, () -> x.floor(4, k));
        }
        for (int k : Trees.row(MIN, -1, 0, 1, MAX)) {
            answers("floor of " + k + " in none", NO_SUCH_ELEMENT, () -> x.floor(0, k));
        }
        int greatest = Trees.putAll(x, 0, MAX);
        answers("floor below the greatest int", NO_SUCH_ELEMENT, () -> x.floor(greatest, MAX - 1));
        answers("floor of the least int below it", NO_SUCH_ELEMENT, () -> x.floor(greatest, MIN));
    }

    /** Promise 11: "or the version is not live". */
    private static void floorWhenNotLive() {
        TreapVersions x = Trees.fourKeys(40);
        for (int version : NO_HANDLES) {
            answers("floor in " + version, NO_SUCH_ELEMENT, () -> x.floor(version, 4));
        }
        answers("floor in one not live yet", NO_SUCH_ELEMENT, () -> x.floor(5, 4));
        x.drop(4);
        answers("floor in one dropped", NO_SUCH_ELEMENT, () -> x.floor(4, 4));
    }

    /** Promise 12: "The key with i lesser ones.", from the first to the last. */
    private static void keyAtEachPlace() {
        TreapVersions x = new TreapVersions(40, 8, 1);
        int[] keys = Trees.row(MIN, MIN + 1, -1, 0, 1, MAX - 1, MAX);
        int version = Trees.putAll(x, 0, 0, MAX, MIN, 1, -1, MAX - 1, MIN + 1);
        for (int i = 0; i < keys.length; i++) {
            int at = i;
            answers("keyAt " + i, keys[i], () -> x.keyAt(version, at));
        }
        answers("keyAt behind the last", OUT_OF_BOUNDS, () -> x.keyAt(version, keys.length));
    }

    /** Promise 12: "IndexOutOfBoundsException when i is negative or it has not so many." */
    private static void keyAtOutOfBounds() {
        TreapVersions x = Trees.fourKeys(40);
        for (int version = 0; version <= 4; version++) {
            int handle = version;
            for (int i : Trees.row(MIN, -40, -2, -1, version, version + 1, 40, 41, MAX)) {
                answers("keyAt " + i + " of " + version, OUT_OF_BOUNDS, () -> x.keyAt(handle, i));
            }
        }
    }

    /**
     * Promise 12: "NoSuchElementException when the version is not live": also when i is negative or
     * too large.
     */
    private static void keyAtWhenNotLive() {
        TreapVersions x = Trees.fourKeys(40);
        x.drop(3);
        for (int i : Trees.row(MIN, -1, 0, 3, MAX)) {
            for (int version : NO_HANDLES) {
                answers("keyAt " + i + " of " + version, NO_SUCH_ELEMENT, () -> x.keyAt(version, i));
            }
            answers("keyAt " + i + " of one not live yet", NO_SUCH_ELEMENT, () -> x.keyAt(5, i));
            answers("keyAt " + i + " of one dropped", NO_SUCH_ELEMENT, () -> x.keyAt(3, i));
        }
    }

    /**
     * Promise 13: "The sum of the values of all keys from low to high": both of them too, and no key
     * when low is greater.
     */
    private static void sumFromLowToHigh() {
        TreapVersions x = Trees.fourKeys(40);
        Check.same("from 1 to 6", 130, x.sum(4, 1, 6));
        Check.same("from 2 to 4", 60, x.sum(4, 2, 4));
        Check.same("from 3 to 5", 40, x.sum(4, 3, 5));
        Check.same("from 4 to 4", 40, x.sum(4, 4, 4));
        Check.same("from 3 to 3", 0, x.sum(4, 3, 3));
        Check.same("from 6 to 1", 0, x.sum(4, 6, 1));
        Check.same("from the greatest int to the least", 0, x.sum(4, MAX, MIN));
        Check.same("from the least int to the greatest", 130, x.sum(4, MIN, MAX));
        Check.same("of none", 0, x.sum(0, MIN, MAX));
        TreapVersions y = new TreapVersions(40, 8, 1);
        y.put(0, MIN, 5);
        y.put(1, MAX, 7);
        Check.same("the least int alone", 5, y.sum(2, MIN, MIN));
        Check.same("the greatest int alone", 7, y.sum(2, MAX, MAX));
        Check.same("both ends", 12, y.sum(2, MIN, MAX));
        Check.same("between the ends", 0, y.sum(2, MIN + 1, MAX - 1));
    }

    /** Promise 13: the sum is a long, and does not wrap where an int would. */
    private static void sumBeyondInt() {
        for (int v : Trees.row(MIN, MAX)) {
            TreapVersions x = new TreapVersions(40, 8, 1);
            int version = 0;
            for (int k = 0; k < 10; k++) {
                int next = x.put(version, k, v);
                x.drop(version);
                version = next;
            }
            Check.same("ten times " + v, 10L * v, x.sum(version, MIN, MAX));
            Check.same("two times " + v, 2L * v, x.sum(version, 8, 9));
        }
    }

    /** Promise 13: "0 when the version is not live". */
    private static void sumWhenNotLive() {
        TreapVersions x = Trees.fourKeys(40);
        for (int version : NO_HANDLES) {
            Check.same("sum of " + version, 0, () -> x.sum(version, MIN, MAX));
        }
        Check.same("sum of one not live yet", 0, x.sum(5, MIN, MAX));
        x.drop(4);
        Check.same("sum of one dropped", 0, x.sum(4, MIN, MAX));
    }

    /**
     * Promise 14: "How many nodes are above that with k.": none above the root, and all others in a
     * chain.
     */
    private static void depthFromTheRoot() {
        TreapVersions x = Trees.withWeights(40, 8, 9, 8, 7, 6);
        TreapVersions y = Trees.withWeights(40, 8, 9, 8, 7, 6);
        int down = Trees.putAll(x, 0, 4, 3, 2, 1);
        int up = Trees.putAll(y, 0, 1, 2, 3, 4);
        for (int k = 1; k <= 4; k++) {
            int key = k;
            answers("to the left, depth of " + k, 4 - k, () -> x.depth(down, key));
            answers("to the right, depth of " + k, k - 1, () -> y.depth(up, key));
        }
    }

    /** Promise 14: "NoSuchElementException when the version [...] has not k". */
    private static void depthWithoutK() {
        TreapVersions x = Trees.fourKeys(40);
        for (int k : Trees.row(MIN, -1, 0, 3, 5, 7, MAX)) {
            answers("depth of " + k, NO_SUCH_ELEMENT, () -> x.depth(4, k));
            answers("depth of " + k + " in none", NO_SUCH_ELEMENT, () -> x.depth(0, k));
        }
    }

    /** Promise 14: "NoSuchElementException when the version is not live". */
    private static void depthWhenNotLive() {
        TreapVersions x = Trees.fourKeys(40);
        for (int version : NO_HANDLES) {
            answers("depth in " + version, NO_SUCH_ELEMENT, () -> x.depth(version, 4));
        }
        answers("depth in one not live yet", NO_SUCH_ELEMENT, () -> x.depth(5, 4));
        x.drop(4);
        answers("depth in one dropped", NO_SUCH_ELEMENT, () -> x.depth(4, 4));
    }

    /**
     * Promise 15: "How many nodes two versions have in common": none, some, all; and what is only
     * alike is not common.
     */
    private static void sharedNodes() {
        TreapVersions x = Trees.fourKeys(40);
        Check.same("none with none", 0, x.shared(0, 0));
        Check.same("none with a tree", 0, x.shared(0, 4));
        Check.same("a tree with none", 0, x.shared(4, 0));
        Check.same("a tree with itself", 4, x.shared(4, 4));
        Check.same("6 is common to 3 and 4", 1, x.shared(3, 4));
        Check.same("6 is common to 4 and 3", 1, x.shared(4, 3));
        Check.same("all with its twin", 4, x.shared(4, x.remove(4, 9)));
        Check.same("alike, but not the same", 0, x.shared(1, x.put(0, 4, 40)));
    }

    /** Promise 15: "BADVER when one is not live": the first, the second, or both. */
    private static void sharedWhenNotLive() {
        TreapVersions x = Trees.fourKeys(40);
        x.drop(3);
        for (int version : NO_HANDLES) {
            isBadForShared(x, version);
        }
        isBadForShared(x, 3);
        isBadForShared(x, 5);
        Check.same("two that are not live", -1, x.shared(3, 5));
    }

    private static void isBadForShared(TreapVersions x, int version) {
        Check.same("shared of " + version + " and 4", -1, () -> x.shared(version, 4));
        Check.same("shared of 4 and " + version, -1, () -> x.shared(4, version));
        Check.same("shared of " + version + " and itself", -1, () -> x.shared(version, version));
        Check.same("shared of " + version + " and none", -1, () -> x.shared(version, 0));
    }

    /**
     * Promise 16: "How many nodes are in trees of live versions.": a node in two trees is one, and a
     * dropped version's count no more.
     */
    private static void nodesOfLiveVersions() {
        TreapVersions x = Trees.fourKeys(40);
        Check.same("6 is one node of 3 and 4", 1 + 2 + 2 + 3, x.nodes());
        x.remove(4, 9);
        Check.same("a twin has no nodes of its own", 8, x.nodes());
        x.drop(4);
        Check.same("the twin keeps them", 8, x.nodes());
        x.drop(5);
        Check.same("6 stays, for 3 has it", 5, x.nodes());
        x.drop(3);
        Check.same("2 and 4 of 2 stay", 3, x.nodes());
        x.drop(2);
        x.drop(1);
        Check.same("none is left", 0, x.nodes());
    }

    /**
     * Promises 16, 17, 18 at a new object: "its tree none", "USED are at first none", "How often the
     * store was swept."
     */
    private static void nodesUsedAndSweepsOfANewObject() {
        for (int room : Trees.row(1, 40, 0)) {
            for (int versions : Trees.row(1, 8, 0)) {
                counts("new", "0 nodes, 0 used, 0 sweeps", new TreapVersions(room, versions, -1));
            }
        }
    }

    /**
     * Promises 16, 17, 18 behind a refused update: "changing nothing but what is said", and of NOROOM
     * a sweep is said.
     */
    private static void nodesUsedAndSweepsBehindARefusal() {
        TreapVersions x = Trees.withWeights(4, 3, 7, 5);
        x.put(0, 1, 10);
        x.put(1, 2, 20);
        answers("NOHANDLE", -2, () -> x.put(2, 3, 30));
        counts("behind NOHANDLE", "3 nodes, 3 used, 0 sweeps", x);
        answers("MIXED", -4, () -> x.join(2, 1));
        counts("behind MIXED", "3 nodes, 3 used, 0 sweeps", x);
        x.drop(1);
        answers("BADVER", -1, () -> x.put(1, 3, 30));
        counts("behind BADVER", "2 nodes, 3 used, 0 sweeps", x);
        answers("NOROOM", -3, () -> x.put(2, 3, 30));
        counts("behind NOROOM", "2 nodes, 2 used, 1 sweeps", x);
        answers("NOROOM again", -3, () -> x.put(2, 3, 30));
        counts("behind NOROOM again", "2 nodes, 2 used, 2 sweeps", x);
    }

    /** Promises 16, 17, 18 behind a sweep: "used is then as many as nodes are in trees of live versions". */
    private static void nodesUsedAndSweepsBehindASweep() {
        TreapVersions x = Trees.fourKeys(9);
        x.drop(1);
        x.drop(2);
        x.drop(3);
        counts("before", "4 nodes, 8 used, 0 sweeps", x);
        x.put(4, 4, 44);
        counts("one more, the store is full", "5 nodes, 9 used, 0 sweeps", x);
        x.put(4, 1, 11);
        counts("three more, behind a sweep", "8 nodes, 8 used, 1 sweeps", x);
        x.put(4, 4, 45);
        counts("one more, the store is full again", "9 nodes, 9 used, 1 sweeps", x);
    }

    /** The answers of promises 7 to 18 are no updates: nothing is fresh by them, drawn, swept or dropped. */
    private static void askingChangesNothing() {
        TreapVersions x = Trees.fourKeys(8);
        String before = Trees.state(x, 5);
        for (int version : Trees.row(-1, 0, 4, 5, 8)) {
            askAll(x, version);
        }
        Check.text("behind all questions", before, () -> Trees.state(x, 5));
        counts("behind all questions", "8 nodes, 8 used, 0 sweeps", x);
    }

    private static void askAll(TreapVersions x, int version) {
        x.isLive(version);
        x.contains(version, 1);
        x.size(version);
        x.sum(version, MIN, MAX);
        x.shared(version, 4);
        x.shared(4, version);
        for (int k : Trees.row(1, 3)) {
            Check.answerOf(() -> x.get(version, k));
            Check.answerOf(() -> x.floor(version, k));
            Check.answerOf(() -> x.keyAt(version, k));
            Check.answerOf(() -> x.depth(version, k));
        }
    }

    /**
     * What it is: "An object is used for at most 512 calls after it has been made": the last of them
     * is as good as the first.
     */
    private static void lastOf512Calls() {
        TreapVersions x = new TreapVersions(1, 2, 1);
        for (int i = 1; i <= 255; i++) {
            answers("call " + (2 * i - 1) + ": put", 1, () -> x.put(0, 1, 1));
            Check.holds("call " + 2 * i + ": drop", x.drop(1));
        }
        Check.same("call 511: used", 1, x.used());
        Check.same("call 512: every put but the first swept", 254, x.sweeps());
    }
}
