import java.util.ArrayList;
import java.util.Collections;
import java.util.IdentityHashMap;
import java.util.List;
import java.util.NoSuchElementException;
import java.util.Set;

/**
 * The document's words in their plainest form, for comparison: nodes are objects, an update makes its
 * tree first, counting what is fresh, and is thrown away when it is refused.
 */
final class TreapModel {
    private static final class Node {
        final int key;
        final int value;
        final int weight;
        final Node left;
        final Node right;

        Node(int key, int value, int weight, Node left, Node right) {
            this.key = key;
            this.value = value;
            this.weight = weight;
            this.left = left;
            this.right = right;
        }

        boolean goesAbove(Node other) {
            return weight > other.weight || (weight == other.weight && key < other.key);
        }
    }

    private final int room;
    private final boolean[] live;
    private final Node[] trees;
    private int seed;
    private int triedSeed;
    private int fresh;
    private int used;
    private int sweeps;

    TreapModel(int room, int versions, int seed) {
        this.room = room < 1 || room > 40 ? 20 : room;
        int handles = versions < 1 || versions > 8 ? 4 : versions;
        live = new boolean[handles];
        trees = new Node[handles];
        live[0] = true;
        this.seed = seed;
    }

    int put(int version, int k, int v) {
        if (!isLive(version)) {
            return -1;
        }
        begin();
        Node tree = trees[version];
        return finish(find(tree, k) != null ? replaced(tree, k, v) : inserted(tree, make(k, v, draw(), null, null)));
    }

    int remove(int version, int k) {
        if (!isLive(version)) {
            return -1;
        }
        begin();
        Node tree = trees[version];
        return finish(find(tree, k) == null ? tree : removed(tree, k));
    }

    int below(int version, int k) {
        if (!isLive(version)) {
            return -1;
        }
        begin();
        return finish(lesser(trees[version], k));
    }

    int join(int a, int b) {
        if (!isLive(a) || !isLive(b)) {
            return -1;
        }
        for (Node x : inOrder(trees[a])) {
            for (Node y : inOrder(trees[b])) {
                if (x.key >= y.key) {
                    return -4;
                }
            }
        }
        begin();
        return finish(joint(trees[a], trees[b]));
    }

    boolean drop(int version) {
        boolean was = isLive(version);
        if (was) {
            live[version] = false;
        }
        return was;
    }

    boolean isLive(int version) {
        return 0 <= version && version < live.length && live[version];
    }

    int get(int version, int k) {
        return required(isLive(version) ? find(trees[version], k) : null).value;
    }

    boolean contains(int version, int k) {
        return isLive(version) && find(trees[version], k) != null;
    }

    int size(int version) {
        return isLive(version) ? inOrder(trees[version]).size() : -1;
    }

    int floor(int version, int k) {
        Node best = null;
        for (Node node : isLive(version) ? inOrder(trees[version]) : new ArrayList<Node>()) {
            best = node.key <= k ? node : best;
        }
        return required(best).key;
    }

    int keyAt(int version, int i) {
        if (!isLive(version)) {
            throw new NoSuchElementException();
        }
        List<Node> all = inOrder(trees[version]);
        if (i < 0 || i >= all.size()) {
            throw new IndexOutOfBoundsException();
        }
        return all.get(i).key;
    }

    long sum(int version, int low, int high) {
        long total = 0;
        for (Node node : isLive(version) ? inOrder(trees[version]) : new ArrayList<Node>()) {
            total += low <= node.key && node.key <= high ? node.value : 0;
        }
        return total;
    }

    int depth(int version, int k) {
        Node goal = required(isLive(version) ? find(trees[version], k) : null);
        int above = 0;
        for (Node node = trees[version]; node != goal; node = node.key < k ? node.right : node.left) {
            above++;
        }
        return above;
    }

    int shared(int a, int b) {
        if (!isLive(a) || !isLive(b)) {
            return -1;
        }
        Set<Node> both = identitySet();
        both.addAll(inOrder(trees[a]));
        Set<Node> other = identitySet();
        other.addAll(inOrder(trees[b]));
        both.retainAll(other);
        return both.size();
    }

    int nodes() {
        Set<Node> all = identitySet();
        for (int handle = 0; handle < live.length; handle++) {
            if (live[handle]) {
                all.addAll(inOrder(trees[handle]));
            }
        }
        return all.size();
    }

    int used() {
        return used;
    }

    int sweeps() {
        return sweeps;
    }

    int liveOnes() {
        int count = 0;
        for (boolean one : live) {
            count += one ? 1 : 0;
        }
        return count;
    }

    /** Whether the first version has keys and the second as well. */
    boolean bothHaveKeys(int a, int b) {
        return isLive(a) && isLive(b) && trees[a] != null && trees[b] != null;
    }

    private void begin() {
        fresh = 0;
        triedSeed = seed;
    }

    private int finish(Node tree) {
        int handle = 0;
        while (handle < live.length && live[handle]) {
            handle++;
        }
        if (handle == live.length) {
            return -2;
        }
        if (used + fresh > room) {
            sweeps++;
            used = nodes();
        }
        if (nodes() + fresh > room) {
            return -3;
        }
        used += fresh;
        seed = triedSeed;
        live[handle] = true;
        trees[handle] = tree;
        return handle;
    }

    private int draw() {
        triedSeed = triedSeed * 1103515245 + 12345;
        return Math.floorMod(triedSeed >> 16, 16);
    }

    private Node make(int k, int v, int w, Node left, Node right) {
        fresh++;
        return new Node(k, v, w, left, right);
    }

    private Node copy(Node node, Node left, Node right) {
        return make(node.key, node.value, node.weight, left, right);
    }

    private Node replaced(Node tree, int k, int v) {
        if (tree.key == k) {
            return make(k, v, tree.weight, tree.left, tree.right);
        }
        return tree.key < k
                ? copy(tree, tree.left, replaced(tree.right, k, v))
                : copy(tree, replaced(tree.left, k, v), tree.right);
    }

    /** The given node was counted as fresh already. */
    private Node inserted(Node tree, Node added) {
        if (tree == null) {
            return added;
        }
        if (!tree.goesAbove(added)) {
            Node left = lesser(tree, added.key);
            Node right = greater(tree, added.key);
            return new Node(added.key, added.value, added.weight, left, right);
        }
        return tree.key < added.key
                ? copy(tree, tree.left, inserted(tree.right, added))
                : copy(tree, inserted(tree.left, added), tree.right);
    }

    private Node removed(Node tree, int k) {
        if (tree.key == k) {
            return joint(tree.left, tree.right);
        }
        return tree.key < k
                ? copy(tree, tree.left, removed(tree.right, k))
                : copy(tree, removed(tree.left, k), tree.right);
    }

    private Node joint(Node l, Node r) {
        if (l == null || r == null) {
            return l == null ? r : l;
        }
        return l.goesAbove(r) ? copy(l, l.left, joint(l.right, r)) : copy(r, joint(l, r.left), r.right);
    }

    private Node lesser(Node tree, int k) {
        if (tree == null) {
            return null;
        }
        return tree.key < k ? copy(tree, tree.left, lesser(tree.right, k)) : lesser(tree.left, k);
    }

    private Node greater(Node tree, int k) {
        if (tree == null) {
            return null;
        }
        return tree.key > k ? copy(tree, greater(tree.left, k), tree.right) : greater(tree.right, k);
    }

    private static Node find(Node tree, int k) {
        for (Node node : inOrder(tree)) {
            if (node.key == k) {
                return node;
            }
        }
        return null;
    }

    private static Node required(Node node) {
        if (node == null) {
            throw new NoSuchElementException();
        }
        return node;
    }

    private static List<Node> inOrder(Node tree) {
        List<Node> all = new ArrayList<>();
        collect(tree, all);
        return all;
    }

    private static void collect(Node tree, List<Node> all) {
        if (tree != null) {
            collect(tree.left, all);
            all.add(tree);
            collect(tree.right, all);
        }
    }

    private static Set<Node> identitySet() {
        return Collections.newSetFromMap(new IdentityHashMap<>());
    }
}
