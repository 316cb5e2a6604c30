/** Each promise with ordinary inputs, the edges that the document names, and wrong inputs. */
public final class PromisesTest {
    private static final int MIN = Trees.MIN;
    private static final int MAX = Trees.MAX;
    private static final int[] NO_HANDLES = {MIN, -4, -3, -2, -1, 8, 9, MAX};

    private PromisesTest() {
    }

    public static void main(String[] args) {
        newObject();
        putNewKey();
        putOldKey();
        putSplitsTheWay();
        putWithEqualWeights();
        putDrawsOnlyWhenItMakes();
        putRefused();
        remove();
        removeWithEqualWeights();
        removeRefused();
        below();
        belowRefused();
        join();
        joinWithEqualWeights();
        joinRefused();
        dropAndIsLive();
        getAndContains();
        size();
        floor();
        keyAt();
        sum();
        depth();
        shared();
        nodesUsedAndSweeps();
        sweepKeepsWhatLives();
        weightsWrap();
        Check.end();
    }

    private static void newObject() {
        for (int room : Trees.row(1, 2, 3, 19, 20, 21, 39, 40)) {
            Check.same("room of " + room, room, roomOf(new TreapVersions(room, 2, 1)));
        }
        for (int room : Trees.row(MIN, -1, 0, 41, MAX)) {
            Check.same("room of " + room, 20, roomOf(new TreapVersions(room, 2, 1)));
        }
        for (int versions = 1; versions <= 8; versions++) {
            Check.same("versions of " + versions, versions, handlesOf(new TreapVersions(1, versions, 1)));
        }
        for (int versions : Trees.row(MIN, -1, 0, 9, MAX)) {
            Check.same("versions of " + versions, 4, handlesOf(new TreapVersions(1, versions, 1)));
        }
        TreapVersions x = new TreapVersions(5, 5, 0);
        Check.holds("new: handle 0 is live", x.isLive(0));
        Check.holds("new: handle 1 is not live", !x.isLive(1));
        Check.same("new: size", 0, x.size(0));
        Check.same("new: nodes", 0, x.nodes());
        Check.same("new: used", 0, x.used());
        Check.same("new: sweeps", 0, x.sweeps());
        Check.same("constants", -1234, TreapVersions.BADVER * 1000 + TreapVersions.NOHANDLE * 100
                + TreapVersions.NOROOM * 10 + TreapVersions.MIXED);
    }

    /** How many places are used before the first sweep, when each update uses one. */
    private static int roomOf(TreapVersions x) {
        int version = 0;
        int most = 0;
        for (int i = 0; i < 60 && x.sweeps() == 0; i++) {
            most = x.used();
            int next = x.put(version, 1, i);
            if (next >= 0) {
                x.drop(version);
                version = next;
            }
        }
        return most;
    }

    /** How many handles can be live at once. */
    private static int handlesOf(TreapVersions x) {
        int count = 1;
        for (int i = 0; i < 20; i++) {
            int handle = x.remove(0, 1);
            Check.same("handle " + count, handle >= 0 ? count : -2, handle);
            count += handle >= 0 ? 1 : 0;
        }
        return count;
    }

    private static void putNewKey() {
        TreapVersions x = Trees.withWeights(40, 8, 5, 9, 3, 7);
        Check.same("put 4", 1, x.put(0, 4, 40));
        Check.same("put 4: used", 1, x.used());
        Check.same("put 2", 2, x.put(1, 2, 20));
        Check.same("put 2: used", 3, x.used());
        Check.same("put 6", 3, x.put(2, 6, 60));
        Check.same("put 6: used", 6, x.used());
        Check.same("put 3", 4, x.put(3, 3, 30));
        Check.same("put 3: used", 9, x.used());
        Trees.isTree("put, version 0", x, 0, "-");
        Trees.isTree("put, version 1", x, 1, "4");
        Trees.isTree("put, version 2", x, 2, "2(-,4)");
        Trees.isTree("put, version 3", x, 3, "2(-,4(-,6))");
        Trees.isTree("put, version 4", x, 4, "2(-,3(-,4(-,6)))");
        Check.same("put shares 6", 1, x.shared(3, 4));
    }

    private static void putOldKey() {
        TreapVersions x = Trees.withWeights(40, 8, 5, 9, 3, 7);
        x.put(0, 4, 40);
        x.put(1, 2, 20);
        x.put(2, 6, 60);
        x.put(3, 3, 30);
        Check.same("put 3 again", 5, x.put(4, 3, 33));
        Check.same("put 3 again: used", 11, x.used());
        Check.same("put 3 again: shares 4 and 6", 2, x.shared(4, 5));
        Check.same("put 3 again: new value", 33, () -> x.get(5, 3));
        Check.same("put 3 again: old value stays", 30, () -> x.get(4, 3));
        Trees.isTree("put 3 again", x, 5, "2(-,3(-,4(-,6)))");
        Check.same("put the same value", 6, x.put(5, 2, 20));
        Check.same("put the same value copies", 12, x.used());
        Check.same("put the same value shares the rest", 3, x.shared(5, 6));
    }

    private static void putSplitsTheWay() {
        TreapVersions x = Trees.withWeights(40, 8, 8, 6, 4, 9);
        x.put(0, 10, 1);
        x.put(1, 2, 1);
        x.put(2, 6, 1);
        Trees.isTree("before the split", x, 3, "10(2(-,6),-)");
        Check.same("put that splits", 4, x.put(3, 4, 1));
        Trees.isTree("after the split", x, 4, "4(2,10(6,-))");
        Check.same("the split copies all of its way", 0, x.shared(3, 4));
        Check.same("the split: used", 10, x.used());
    }

    private static void putWithEqualWeights() {
        TreapVersions x = Trees.withWeights(40, 8, 7, 7, 7);
        x.put(0, 2, 1);
        x.put(1, 1, 1);
        x.put(2, 3, 1);
        Trees.isTree("equal weights, lesser key", x, 2, "1(-,2)");
        Trees.isTree("equal weights, greater key", x, 3, "1(-,2(-,3))");
        TreapVersions y = Trees.withWeights(40, 8, 7, 7);
        y.put(0, MAX, 1);
        y.put(1, MIN, 1);
        Trees.isTree("equal weights, edges of int", y, 2, "-2147483648(-,2147483647)");
    }

    private static void putDrawsOnlyWhenItMakes() {
        TreapVersions x = Trees.withWeights(40, 8, 5, 9, 1);
        x.put(0, 1, 1);
        x.put(1, 1, 2);
        x.put(2, 2, 2);
        Trees.isTree("an old key draws no weight", x, 3, "2(1,-)");
        TreapVersions y = Trees.withWeights(40, 2, 5, 9, 1);
        y.put(0, 1, 1);
        Check.same("no handle", -2, y.put(1, 2, 2));
        Check.same("not live", -1, y.put(2, 2, 2));
        y.drop(0);
        Check.same("handle 0 again", 0, y.put(1, 2, 2));
        Trees.isTree("NOHANDLE and BADVER draw no weight", y, 0, "2(1,-)");
        TreapVersions z = Trees.withWeights(5, 8, 5, 3, 9, 1);
        z.put(0, 1, 1);
        z.put(1, 2, 2);
        Check.same("no room", -3, z.put(2, 3, 3));
        Check.same("no room: used", 3, z.used());
        Check.same("no room: sweeps", 1, z.sweeps());
        z.drop(1);
        Check.same("room again", 1, z.put(2, 3, 3));
        Check.same("room again: used", 5, z.used());
        Check.same("room again: sweeps", 2, z.sweeps());
        Trees.isTree("NOROOM draws no weight", z, 1, "3(1(-,2),-)");
    }

    private static void putRefused() {
        TreapVersions x = new TreapVersions(1, 2, 1);
        for (int version : NO_HANDLES) {
            Check.same("put in " + version, -1, x.put(version, 1, 1));
        }
        Check.same("put fills the room", 1, x.put(0, 1, 1));
        Check.same("NOHANDLE comes before NOROOM", -2, x.put(1, 1, 1));
        Check.same("NOHANDLE does not sweep", 0, x.sweeps());
        Check.same("BADVER comes before NOHANDLE", -1, x.put(2, 1, 1));
        x.drop(0);
        Check.same("an old key needs room too", -3, x.put(1, 1, 2));
        Check.same("NOROOM sweeps", 1, x.sweeps());
        Check.same("NOROOM leaves the value", 1, () -> x.get(1, 1));
        Check.holds("NOROOM leaves the handle", !x.isLive(0));
    }

    private static void remove() {
        TreapVersions x = Trees.fourKeys(40);
        int used = x.used();
        Trees.isTree("before remove", x, 4, "4(2(1,-),6)");
        Check.same("remove the root", 5, x.remove(4, 4));
        Trees.isTree("remove the root", x, 5, "6(2(1,-),-)");
        Check.same("remove the root copies 6", used + 1, x.used());
        Check.same("remove the root shares 1 and 2", 2, x.shared(4, 5));
        Check.same("remove a leaf", 6, x.remove(4, 1));
        Trees.isTree("remove a leaf", x, 6, "4(2,6)");
        Check.same("remove a leaf copies what is above", used + 3, x.used());
        Check.same("remove a leaf shares 6", 1, x.shared(4, 6));
        Check.same("remove over one tree", 7, x.remove(4, 2));
        Trees.isTree("remove over one tree", x, 7, "4(1,6)");
        Check.same("remove over one tree copies 4", used + 4, x.used());
        Check.same("remove over one tree shares 1 and 6", 2, x.shared(4, 7));
        Trees.isTree("remove leaves the old version", x, 4, "4(2(1,-),6)");
        x.drop(5);
        Check.same("remove a key that is not there", 5, x.remove(4, 3));
        Check.same("remove nothing uses nothing", used + 4, x.used());
        Check.same("remove nothing is the tree itself", 4, x.shared(4, 5));
        x.drop(5);
        Check.same("remove the only key", 5, x.remove(1, 4));
        Trees.isTree("remove the only key", x, 5, "-");
        x.drop(5);
        Check.same("remove from none", 5, x.remove(0, 4));
        Check.same("remove down to none uses nothing", used + 4, x.used());
    }

    private static void removeWithEqualWeights() {
        TreapVersions x = Trees.withWeights(40, 8, 9, 5, 5);
        x.put(0, 4, 1);
        x.put(1, 2, 1);
        x.put(2, 6, 1);
        int used = x.used();
        Check.same("remove over equal weights", 4, x.remove(3, 4));
        Trees.isTree("remove over equal weights", x, 4, "2(-,6)");
        Check.same("remove over equal weights copies 2", used + 1, x.used());
        Check.same("remove over equal weights shares 6 of version 3", 1, x.shared(3, 4));
        Check.same("and none of version 2", 0, x.shared(2, 4));
    }

    private static void removeRefused() {
        TreapVersions x = Trees.withWeights(3, 3, 5, 3);
        for (int version : NO_HANDLES) {
            Check.same("remove in " + version, -1, x.remove(version, 1));
        }
        x.put(0, 1, 1);
        x.put(1, 2, 2);
        Check.same("remove without a handle", -2, x.remove(2, 2));
        Check.same("remove nothing without a handle", -2, x.remove(2, 7));
        x.drop(0);
        Check.same("remove without room", -3, x.remove(2, 2));
        Check.same("remove without room sweeps", 1, x.sweeps());
        Check.same("remove nothing needs no room", 0, x.remove(2, 7));
        Check.same("remove nothing does not sweep", 1, x.sweeps());
        x.drop(0);
        x.drop(1);
        Check.same("remove after a sweep", 0, x.remove(2, 2));
        Check.same("remove after a sweep: used", 3, x.used());
        Check.same("remove after a sweep: sweeps", 2, x.sweeps());
        Trees.isTree("remove after a sweep", x, 0, "1");
    }

    private static void below() {
        TreapVersions x = Trees.fourKeys(40);
        int used = x.used();
        Check.same("below 4", 5, x.below(4, 4));
        Trees.isTree("below 4", x, 5, "2(1,-)");
        Check.same("below 4 copies 2", used + 1, x.used());
        Check.same("below 4 shares 1", 1, x.shared(4, 5));
        Check.same("below 5", 6, x.below(4, 5));
        Trees.isTree("below 5", x, 6, "4(2(1,-),-)");
        Check.same("below 5 copies 4", used + 2, x.used());
        Check.same("below 5 shares 1 and 2", 2, x.shared(4, 6));
        Check.same("below 6", 7, x.below(4, 6));
        Trees.isTree("below 6", x, 7, "4(2(1,-),-)");
        Check.same("below 6 copies 4", used + 3, x.used());
        for (int handle = 5; handle <= 7; handle++) {
            x.drop(handle);
        }
        Check.same("below the greatest int", 5, x.below(4, MAX));
        Trees.isTree("below the greatest int", x, 5, "4(2(1,-),6)");
        Check.same("below the greatest int copies 4 and 6", used + 5, x.used());
        Check.same("below the greatest int shares 1 and 2", 2, x.shared(4, 5));
        Check.same("below the least key", 6, x.below(4, 1));
        Trees.isTree("below the least key", x, 6, "-");
        Check.same("below the least int", 7, x.below(4, MIN));
        Trees.isTree("below the least int", x, 7, "-");
        x.drop(7);
        Check.same("below of none", 7, x.below(0, 3));
        Check.same("below to none uses nothing", used + 5, x.used());
        Trees.isTree("below leaves the old version", x, 4, "4(2(1,-),6)");
    }

    private static void belowRefused() {
        TreapVersions x = Trees.withWeights(3, 3, 5, 3);
        for (int version : NO_HANDLES) {
            Check.same("below in " + version, -1, x.below(version, 1));
        }
        x.put(0, 1, 1);
        x.put(1, 2, 2);
        Check.same("below without a handle", -2, x.below(2, 0));
        x.drop(0);
        Check.same("below without room", -3, x.below(2, 2));
        Check.same("below without room sweeps", 1, x.sweeps());
        Check.same("below to none needs no room", 0, x.below(2, 1));
        x.drop(0);
        x.drop(1);
        Check.same("below after a sweep", 0, x.below(2, 2));
        Check.same("below after a sweep: used", 3, x.used());
        Trees.isTree("below after a sweep", x, 0, "1");
    }

    private static void join() {
        TreapVersions x = Trees.withWeights(40, 8, 5, 7, 6, 2);
        x.put(0, 2, 20);
        x.put(0, 8, 80);
        x.put(2, 9, 90);
        x.put(1, 1, 10);
        Trees.isTree("lower", x, 4, "2(1,-)");
        Trees.isTree("upper", x, 3, "8(-,9)");
        int used = x.used();
        Check.same("join", 5, x.join(4, 3));
        Trees.isTree("join", x, 5, "8(2(1,-),9)");
        Check.same("join copies 8", used + 1, x.used());
        Check.same("join shares with the lower", 2, x.shared(4, 5));
        Check.same("join shares with the upper", 1, x.shared(3, 5));
        Check.same("join: values", 200, x.sum(5, MIN, MAX));
        Check.same("join with none behind", 6, x.join(4, 0));
        Check.same("join with none behind is the tree itself", 2, x.shared(4, 6));
        Check.same("join with none before", 7, x.join(0, 3));
        Check.same("join with none before is the tree itself", 2, x.shared(3, 7));
        x.drop(7);
        Check.same("join of none and none", 7, x.join(0, 0));
        Trees.isTree("join of none and none", x, 7, "-");
        Check.same("join with none uses nothing", used + 1, x.used());
    }

    private static void joinWithEqualWeights() {
        TreapVersions x = Trees.withWeights(40, 8, 6, 6);
        x.put(0, MIN, 20);
        x.put(0, MAX, 80);
        Check.same("join with equal weights", 3, x.join(1, 2));
        Trees.isTree("join with equal weights", x, 3, "-2147483648(-,2147483647)");
        Check.same("join with equal weights copies the lower", 0, x.shared(1, 3));
        Check.same("join with equal weights shares the upper", 1, x.shared(2, 3));
    }

    private static void joinRefused() {
        TreapVersions x = Trees.withWeights(3, 4, 5, 7);
        for (int version : NO_HANDLES) {
            Check.same("join of " + version + " and 0", -1, x.join(version, 0));
            Check.same("join of 0 and " + version, -1, x.join(0, version));
        }
        x.put(0, 1, 1);
        x.put(0, 2, 2);
        Check.same("join of greater and lesser", -4, x.join(2, 1));
        Check.same("join with itself", -4, x.join(1, 1));
        Check.same("join fits", 3, x.join(1, 2));
        Check.same("MIXED comes before NOHANDLE", -4, x.join(3, 2));
        Check.same("BADVER comes before MIXED", -1, x.join(3, 4));
        Check.same("join without a handle", -2, x.join(1, 2));
        Check.same("join with none without a handle", -2, x.join(0, 0));
        x.drop(0);
        Check.same("join of keys that meet", -4, x.join(1, 3));
        Check.same("join without room", -3, x.join(1, 2));
        Check.same("join without room sweeps", 1, x.sweeps());
        x.drop(3);
        Check.same("join after a sweep", 0, x.join(1, 2));
        Check.same("join after a sweep: used", 3, x.used());
        Check.same("join after a sweep: sweeps", 2, x.sweeps());
        TreapVersions y = new TreapVersions(40, 8, 3);
        y.put(0, MAX, 1);
        y.put(0, MIN, 1);
        Check.same("join of the edges of int", -4, y.join(1, 2));
        Check.same("join of the edges of int in order", 3, y.join(2, 1));
    }

    private static void dropAndIsLive() {
        TreapVersions x = new TreapVersions(10, 4, 1);
        for (int version : NO_HANDLES) {
            Check.holds("no drop of " + version, !x.drop(version));
            Check.holds("not live: " + version, !x.isLive(version));
        }
        Check.holds("4 is no handle", !x.drop(4) && !x.isLive(4));
        Check.holds("no drop of one not live yet", !x.drop(1) && !x.isLive(1));
        x.put(0, 1, 1);
        x.put(1, 2, 2);
        Check.holds("live when made", x.isLive(0) && x.isLive(1) && x.isLive(2) && !x.isLive(3));
        Check.holds("drop", x.drop(1));
        Check.holds("not live when dropped", !x.isLive(1) && x.isLive(0) && x.isLive(2));
        Check.holds("no second drop", !x.drop(1));
        Check.same("the least handle comes first", 1, x.put(2, 3, 3));
        Check.same("then the next", 3, x.put(1, 3, 4));
        Check.holds("the last handle is live", x.isLive(3));
        Check.same("a version made of a dropped one stays", 2, x.size(2));
        for (int version = 0; version < 4; version++) {
            Check.holds("drop all", x.drop(version));
        }
        Check.same("nothing is left", 0, x.nodes());
        Check.same("no update without a version", -1, x.put(0, 1, 1));
    }

    private static void getAndContains() {
        TreapVersions x = Trees.fourKeys(40);
        x.put(0, MIN, MAX);
        x.put(5, MAX, MIN);
        for (int k : Trees.row(1, 2, 4, 6)) {
            Check.same("get " + k, k * 10, () -> x.get(4, k));
            Check.holds("contains " + k, x.contains(4, k));
        }
        for (int k : Trees.row(MIN, -1, 0, 3, 5, 7, MAX)) {
            Check.same("get " + k, Check.NO_SUCH_ELEMENT, () -> x.get(4, k));
            Check.holds("contains not " + k, !x.contains(4, k));
        }
        Check.same("get the least int", MAX, () -> x.get(6, MIN));
        Check.same("get the greatest int", MIN, () -> x.get(6, MAX));
        Check.same("get from none", Check.NO_SUCH_ELEMENT, () -> x.get(0, 0));
        Check.holds("none contains nothing", !x.contains(0, 0));
        x.drop(4);
        Check.same("get from one dropped", Check.NO_SUCH_ELEMENT, () -> x.get(4, 4));
        Check.holds("one dropped contains nothing", !x.contains(4, 4));
        for (int version : NO_HANDLES) {
            Check.same("get from " + version, Check.NO_SUCH_ELEMENT, () -> x.get(version, 4));
            Check.holds("nothing in " + version, !x.contains(version, 4));
        }
    }

    private static void size() {
        TreapVersions x = Trees.fourKeys(40);
        for (int version = 0; version <= 4; version++) {
            Check.same("size of " + version, version, x.size(version));
        }
        Check.same("size of one not live", -1, x.size(5));
        x.drop(4);
        Check.same("size of one dropped", -1, x.size(4));
        for (int version : NO_HANDLES) {
            Check.same("size of " + version, -1, x.size(version));
        }
    }

    private static void floor() {
        TreapVersions x = Trees.fourKeys(40);
        int[] asked = Trees.row(1, 2, 3, 4, 5, 6, 7, MAX);
        int[] due = Trees.row(1, 2, 2, 4, 4, 6, 6, 6);
        for (int i = 0; i < asked.length; i++) {
            int k = asked[i];
            Check.same("floor of " + k, due[i], () -> x.floor(4, k));
        }
        for (int k : Trees.row(0, -1, MIN)) {
            Check.same("floor of " + k, Check.NO_SUCH_ELEMENT, () -> x.floor(4, k));
        }
        x.put(0, MIN, 1);
        Check.same("floor is the least int", MIN, () -> x.floor(5, MIN));
        Check.same("floor of 0 is the least int", MIN, () -> x.floor(5, 0));
        Check.same("floor in none", Check.NO_SUCH_ELEMENT, () -> x.floor(0, 4));
        x.drop(4);
        Check.same("floor in one dropped", Check.NO_SUCH_ELEMENT, () -> x.floor(4, 4));
        for (int version : NO_HANDLES) {
            Check.same("floor in " + version, Check.NO_SUCH_ELEMENT, () -> x.floor(version, 4));
        }
    }

    private static void keyAt() {
        TreapVersions x = Trees.fourKeys(40);
        int[] due = Trees.row(1, 2, 4, 6);
        for (int i = 0; i < due.length; i++) {
            int at = i;
            Check.same("keyAt " + i, due[i], () -> x.keyAt(4, at));
        }
        for (int i : Trees.row(MIN, -2, -1, 4, 5, MAX)) {
            Check.same("keyAt " + i, Check.OUT_OF_BOUNDS, () -> x.keyAt(4, i));
        }
        Check.same("keyAt 0 in none", Check.OUT_OF_BOUNDS, () -> x.keyAt(0, 0));
        Check.same("keyAt -1 in none", Check.OUT_OF_BOUNDS, () -> x.keyAt(0, -1));
        x.drop(4);
        Check.same("keyAt in one dropped", Check.NO_SUCH_ELEMENT, () -> x.keyAt(4, 0));
        Check.same("keyAt -1 in one dropped", Check.NO_SUCH_ELEMENT, () -> x.keyAt(4, -1));
        for (int version : NO_HANDLES) {
            Check.same("keyAt in " + version, Check.NO_SUCH_ELEMENT, () -> x.keyAt(version, 9));
        }
    }

    private static void sum() {
        TreapVersions x = Trees.fourKeys(40);
        Check.same("sum of all", 130, x.sum(4, MIN, MAX));
        Check.same("sum takes both ends", 120, x.sum(4, 2, 6));
        Check.same("sum between keys", 60, x.sum(4, 2, 5));
        Check.same("sum of one key", 40, x.sum(4, 4, 4));
        Check.same("sum of no key", 0, x.sum(4, 3, 3));
        Check.same("sum of ends in the wrong order", 0, x.sum(4, 6, 1));
        Check.same("sum of an older version", 60, x.sum(2, MIN, MAX));
        Check.same("sum of none", 0, x.sum(0, MIN, MAX));
        x.put(0, MIN, MAX);
        x.put(5, MAX, MAX);
        x.drop(5);
        x.put(6, 0, MAX);
        Check.same("sum beyond int", 3L * MAX, x.sum(5, MIN, MAX));
        x.put(0, MIN, MIN);
        x.drop(6);
        x.put(7, MAX, MIN);
        Check.same("sum beyond int, negative", 2L * MIN, x.sum(6, MIN, MAX));
        x.drop(4);
        Check.same("sum of one dropped", 0, x.sum(4, MIN, MAX));
        for (int version : NO_HANDLES) {
            Check.same("sum of " + version, 0, x.sum(version, MIN, MAX));
        }
    }

    private static void depth() {
        TreapVersions x = Trees.fourKeys(40);
        Trees.isTree("depth", x, 4, "4(2(1,-),6)");
        for (int k : Trees.row(MIN, 0, 3, 5, 7, MAX)) {
            Check.same("depth of " + k, Check.NO_SUCH_ELEMENT, () -> x.depth(4, k));
        }
        Check.same("depth in none", Check.NO_SUCH_ELEMENT, () -> x.depth(0, 0));
        x.drop(4);
        Check.same("depth in one dropped", Check.NO_SUCH_ELEMENT, () -> x.depth(4, 4));
        for (int version : NO_HANDLES) {
            Check.same("depth in " + version, Check.NO_SUCH_ELEMENT, () -> x.depth(version, 4));
        }
    }

    private static void shared() {
        TreapVersions x = Trees.fourKeys(40);
        Check.same("shared with itself", 4, x.shared(4, 4));
        Check.same("shared of neighbours", 1, x.shared(3, 4));
        Check.same("shared the other way", 1, x.shared(4, 3));
        Check.same("shared with none", 0, x.shared(0, 4));
        Check.same("shared of none with none", 0, x.shared(0, 0));
        x.put(0, 4, 40);
        Check.same("what is alike is not shared", 0, x.shared(1, 5));
        x.drop(3);
        Check.same("shared with one dropped", -1, x.shared(4, 3));
        Check.same("shared of one dropped", -1, x.shared(3, 4));
        for (int version : NO_HANDLES) {
            Check.same("shared of " + version + " and 4", -1, x.shared(version, 4));
            Check.same("shared of 4 and " + version, -1, x.shared(4, version));
        }
    }

    private static void nodesUsedAndSweeps() {
        TreapVersions x = Trees.fourKeys(11);
        Check.same("used of four keys", 1 + 2 + 2 + 3, x.used());
        Check.same("nodes of four keys", 8, x.nodes());
        x.remove(4, 77);
        Check.same("nodes in several trees count once", 8, x.nodes());
        x.drop(4);
        Check.same("nodes of a dropped twin stay", 8, x.nodes());
        x.drop(5);
        Check.same("nodes of dropped versions go", 5, x.nodes());
        Check.same("used stays without a sweep", 8, x.used());
        Check.same("an update that fits just", 4, x.put(3, 7, 70));
        Check.same("a full store", 11, x.used());
        Check.same("a full store is not swept yet", 0, x.sweeps());
        Check.same("nothing fresh, no sweep", 5, x.remove(4, 77));
        Check.same("nothing fresh: sweeps", 0, x.sweeps());
        Check.same("one more sweeps", 6, x.put(0, 5, 50));
        Check.same("one more: sweeps", 1, x.sweeps());
        Check.same("one more: used", x.nodes(), x.used());
        Check.same("one more: nodes", 9, x.nodes());
        Check.same("a refusal sweeps too", -3, x.put(4, 1, 11));
        Check.same("a refusal: sweeps", 2, x.sweeps());
        Check.same("a refusal: used", 9, x.used());
        Check.same("a refusal again", -3, x.put(4, 1, 11));
        Check.same("a sweep that frees nothing counts", 3, x.sweeps());
    }

    /** Many updates in a small store, so that places are used again while old versions look on. */
    private static void sweepKeepsWhatLives() {
        TreapVersions x = Trees.withWeights(9, 4, 4, 9, 2);
        x.put(0, 10, 1);
        x.put(1, 20, 2);
        x.put(2, 30, 3);
        x.drop(1);
        x.drop(2);
        for (int i = 0; i < 40; i++) {
            int made = x.put(3, 30, 1000 + i);
            Check.same("again and again", 1, made);
            Check.same("the new value", 1000 + i, () -> x.get(1, 30));
            Trees.isTree("the old version", x, 3, "20(10,30)");
            Check.same("the old values", 6, x.sum(3, MIN, MAX));
            x.drop(1);
        }
    }

    private static void weightsWrap() {
        int[] seeds = Trees.row(MIN, -1, MAX, -5, 123456789);
        for (int seed : seeds) {
            TreapVersions x = new TreapVersions(40, 3, seed);
            TreapModel due = new TreapModel(40, 3, seed);
            int version = 0;
            for (int k = 0; k < 8; k++) {
                int next = x.put(version, k, k);
                Check.same("the model's handle", due.put(version, k, k), next);
                x.drop(version);
                due.drop(version);
                version = next;
            }
            for (int k = 0; k < 8; k++) {
                int handle = version;
                int key = k;
                Check.same("seed " + seed + ": depth of " + k, due.depth(version, k), () -> x.depth(handle, key));
            }
        }
    }
}
