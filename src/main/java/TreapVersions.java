import java.util.NoSuchElementException;

/** Maps from ints to ints in many versions that share their nodes in one swept store. */
public final class TreapVersions {
    public static final int BADVER = -1;
    public static final int NOHANDLE = -2;
    public static final int NOROOM = -3;
    public static final int MIXED = -4;

    private static final int MOST_ROOM = 40;
    private static final int USUAL_ROOM = 20;
    private static final int MOST_VERSIONS = 8;
    private static final int USUAL_VERSIONS = 4;

    /** The tree without a node; the store keeps a place for it, so that it needs no special case. */
    private static final int NONE = 0;

    private final Store store;
    private final Way way;
    private final boolean[] live;
    private final int[] roots;
    private int seed;
    private int sweepCount;

    public TreapVersions(int room, int versions, int seed) {
        int places = room >= 1 && room <= MOST_ROOM ? room : USUAL_ROOM;
        int handles = versions >= 1 && versions <= MOST_VERSIONS ? versions : USUAL_VERSIONS;
        Store empty = new Store(places);
        this.store = empty;
        this.way = new Way(empty);
        this.live = new boolean[handles];
        this.roots = new int[handles];
        this.live[0] = true;
        this.seed = seed;
    }

    public int put(int version, int k, int v) {
        if (!isLive(version)) {
            return BADVER;
        }
        int old = way.noteTo(roots[version], k);
        int handle = handleFor(way.length + 1);
        if (handle < 0) {
            return handle;
        }
        int changed = old == NONE
                ? way.placeNew(k, v, drawWeight())
                : store.fresh(k, v, store.weight[old], store.left[old], store.right[old]);
        return open(handle, way.copyOver(changed, k));
    }

    public int remove(int version, int k) {
        if (!isLive(version)) {
            return BADVER;
        }
        int rest = way.noteRemoval(roots[version], k);
        int handle = handleFor(way.length);
        return handle < 0 ? handle : open(handle, way.copyOver(rest, k));
    }

    public int below(int version, int k) {
        if (!isLive(version)) {
            return BADVER;
        }
        way.noteLesser(roots[version], k);
        int handle = handleFor(way.length);
        return handle < 0 ? handle : open(handle, way.copyOver(NONE, k));
    }

    public int join(int a, int b) {
        if (!isLive(a) || !isLive(b)) {
            return BADVER;
        }
        int lower = roots[a];
        int upper = roots[b];
        int greatest = store.nodeAt(lower, store.count[lower] - 1);
        int least = store.nodeAt(upper, 0);
        if (greatest != NONE && least != NONE && store.key[greatest] >= store.key[least]) {
            return MIXED;
        }
        way.length = 0;
        int rest = way.noteJoint(lower, upper);
        int handle = handleFor(way.length);
        return handle < 0 ? handle : open(handle, way.copyOver(rest, store.key[least]));
    }

    public boolean drop(int version) {
        if (!isLive(version)) {
            return false;
        }
        live[version] = false;
        return true;
    }

    public boolean isLive(int version) {
        return version >= 0 && version < live.length && live[version];
    }

    public int get(int version, int k) throws NoSuchElementException {
        int node = nodeWith(version, k);
        if (node == NONE) {
            throw new NoSuchElementException();
        }
        return store.value[node];
    }

    public boolean contains(int version, int k) {
        return nodeWith(version, k) != NONE;
    }

    public int size(int version) {
        return isLive(version) ? store.count[roots[version]] : BADVER;
    }

    public int floor(int version, int k) throws NoSuchElementException {
        int node = isLive(version) ? store.floorNode(roots[version], k) : NONE;
        if (node == NONE) {
            throw new NoSuchElementException();
        }
        return store.key[node];
    }

    public int keyAt(int version, int i) throws NoSuchElementException, IndexOutOfBoundsException {
        if (!isLive(version)) {
            throw new NoSuchElementException();
        }
        int node = store.nodeAt(roots[version], i);
        if (node == NONE) {
            throw new IndexOutOfBoundsException();
        }
        return store.key[node];
    }

    public long sum(int version, int low, int high) {
        if (!isLive(version)) {
            return 0L;
        }
        store.forgetReached();
        store.reach(roots[version]);
        return store.sumReached(low, high);
    }

    public int depth(int version, int k) throws NoSuchElementException {
        if (nodeWith(version, k) == NONE) {
            throw new NoSuchElementException();
        }
        return way.length;
    }

    public int shared(int a, int b) {
        if (!isLive(a) || !isLive(b)) {
            return BADVER;
        }
        store.forgetReached();
        store.reach(roots[a]);
        return store.count[roots[b]] - store.reach(roots[b]);
    }

    public int nodes() {
        return reachLive();
    }

    public int used() {
        return store.usedPlaces;
    }

    public int sweeps() {
        return sweepCount;
    }

    /** The node with k, or none; the way then holds the nodes above it. */
    private int nodeWith(int version, int k) {
        return isLive(version) ? way.noteTo(roots[version], k) : NONE;
    }

    /** The handle for an update with so many fresh nodes, there being room for them, or the refusal. */
    private int handleFor(int fresh) {
        for (int handle = 0; handle < live.length; handle++) {
            if (!live[handle]) {
                return makeRoom(fresh) ? handle : NOROOM;
            }
        }
        return NOHANDLE;
    }

    private boolean makeRoom(int fresh) {
        if (store.hasRoom(fresh)) {
            return true;
        }
        reachLive();
        store.keepReached();
        sweepCount++;
        return store.hasRoom(fresh);
    }

    /** Marks the nodes in trees of live versions and counts them. */
    private int reachLive() {
        store.forgetReached();
        int reached = 0;
        for (int handle = 0; handle < live.length; handle++) {
            if (live[handle]) {
                reached += store.reach(roots[handle]);
            }
        }
        return reached;
    }

    private int open(int handle, int tree) {
        live[handle] = true;
        roots[handle] = tree;
        return handle;
    }

    private int drawWeight() {
        seed = seed * 1103515245 + 12345;
        return (seed >>> 16) & 15;
    }

    /** The places 1 .. room with their nodes; a node stays in its place until a sweep frees it. */
    private static final class Store {
        final int room;
        final int[] key;
        final int[] value;
        final int[] weight;
        final int[] left;
        final int[] right;
        /** How many nodes a tree has, kept at its root. */
        final int[] count;
        int usedPlaces;
        private final boolean[] taken;
        private final boolean[] reached;
        private final int[] pending;

        Store(int room) {
            this.room = room;
            key = new int[room + 1];
            value = new int[room + 1];
            weight = new int[room + 1];
            left = new int[room + 1];
            right = new int[room + 1];
            count = new int[room + 1];
            taken = new boolean[room + 1];
            reached = new boolean[room + 1];
            pending = new int[room + 1];
        }

        boolean hasRoom(int fresh) {
            return usedPlaces + fresh <= room;
        }

        /** Makes a node; the caller has seen that there is room. */
        int fresh(int k, int v, int w, int lesser, int greater) {
            int place = freePlace();
            taken[place] = true;
            usedPlaces++;
            key[place] = k;
            value[place] = v;
            weight[place] = w;
            left[place] = lesser;
            right[place] = greater;
            count[place] = 1 + count[lesser] + count[greater];
            return place;
        }

        int copy(int node, int lesser, int greater) {
            return fresh(key[node], value[node], weight[node], lesser, greater);
        }

        private int freePlace() {
            int place = 1;
            while (place < room && taken[place]) {
                place++;
            }
            return place;
        }

        boolean goesAbove(int node, int otherWeight, int otherKey) {
            return weight[node] != otherWeight ? weight[node] > otherWeight : key[node] < otherKey;
        }

        void forgetReached() {
            for (int place = 1; place <= room; place++) {
                reached[place] = false;
            }
        }

        /** Marks the nodes of a tree and counts those that were not marked before. */
        int reach(int tree) {
            int found = pend(tree, 0);
            int waiting = found;
            for (int step = 0; step < room && waiting > 0; step++) {
                waiting--;
                int node = pending[waiting];
                int more = pend(left[node], waiting);
                more += pend(right[node], waiting + more);
                waiting += more;
                found += more;
            }
            return found;
        }

        /** Marks a node and lets it wait at a spot, once only: so no more can wait than there are. */
        private int pend(int node, int spot) {
            if (node == NONE || reached[node]) {
                return 0;
            }
            reached[node] = true;
            pending[spot] = node;
            return 1;
        }

        /** Sweeps: only the marked nodes keep their places. */
        void keepReached() {
            usedPlaces = 0;
            for (int place = 1; place <= room; place++) {
                taken[place] = reached[place];
                usedPlaces += reached[place] ? 1 : 0;
            }
        }

        long sumReached(int low, int high) {
            long total = 0L;
            for (int place = 1; place <= room; place++) {
                if (reached[place] && key[place] >= low && key[place] <= high) {
                    total += value[place];
                }
            }
            return total;
        }

        /** The node with so many lesser ones in a tree, or none. */
        int nodeAt(int tree, int lesser) {
            int node = tree;
            int rank = lesser;
            for (int step = 0; step < room && node != NONE && rank != count[left[node]]; step++) {
                if (rank < count[left[node]]) {
                    node = left[node];
                } else {
                    rank -= count[left[node]] + 1;
                    node = right[node];
                }
            }
            return node;
        }

        /** The node with the greatest key that is not greater than k, or none. */
        int floorNode(int tree, int k) {
            int node = tree;
            int best = NONE;
            for (int step = 0; step < room && node != NONE; step++) {
                if (key[node] <= k) {
                    best = node;
                    node = right[node];
                } else {
                    node = left[node];
                }
            }
            return best;
        }
    }

    /**
     * The nodes that an update is to copy, from the root down. They are noted before the first copy
     * is made, because a refusal must know their number and change nothing.
     */
    private static final class Way {
        final Store store;
        final int[] noted;
        int length;

        Way(Store store) {
            this.store = store;
            this.noted = new int[store.room];
        }

        /** Notes the nodes above that with k, which is the answer; without one, the whole way to none. */
        int noteTo(int tree, int k) {
            length = 0;
            int node = tree;
            while (length < noted.length && node != NONE && store.key[node] != k) {
                noted[length] = node;
                length++;
                node = store.key[node] < k ? store.right[node] : store.left[node];
            }
            return node;
        }

        /** Notes the nodes with keys less than k on the way to k. */
        void noteLesser(int tree, int k) {
            length = 0;
            int node = tree;
            for (int step = 0; step < noted.length && node != NONE; step++) {
                if (store.key[node] < k) {
                    noted[length] = node;
                    length++;
                    node = store.right[node];
                } else {
                    node = store.left[node];
                }
            }
        }

        /** Notes what a tree without k copies; the answer is what hangs uncopied under the last of it. */
        int noteRemoval(int tree, int k) {
            int node = noteTo(tree, k);
            if (node == NONE) {
                length = 0;
                return tree;
            }
            return noteJoint(store.left[node], store.right[node]);
        }

        /** Notes what the joint copies, behind what is noted; the answer hangs uncopied under the last. */
        int noteJoint(int lower, int upper) {
            int l = lower;
            int r = upper;
            while (length < noted.length && l != NONE && r != NONE) {
                if (store.goesAbove(l, store.weight[r], store.key[r])) {
                    noted[length] = l;
                    l = store.right[l];
                } else {
                    noted[length] = r;
                    r = store.left[r];
                }
                length++;
            }
            return l == NONE ? r : l;
        }

        /** Makes the node for a new key over copies of the noted ones that do not go above it. */
        int placeNew(int k, int v, int w) {
            int lesser = NONE;
            int greater = NONE;
            while (length > 0 && !store.goesAbove(noted[length - 1], w, k)) {
                length--;
                int node = noted[length];
                if (store.key[node] < k) {
                    lesser = store.copy(node, store.left[node], lesser);
                } else {
                    greater = store.copy(node, greater, store.right[node]);
                }
            }
            return store.fresh(k, v, w, lesser, greater);
        }

        /** Copies the noted nodes over a tree, each with the copy of the next on the side where k lies. */
        int copyOver(int tree, int k) {
            int top = tree;
            while (length > 0) {
                length--;
                int node = noted[length];
                top = store.key[node] < k
                        ? store.copy(node, store.left[node], top)
                        : store.copy(node, top, store.right[node]);
            }
            return top;
        }
    }
}
