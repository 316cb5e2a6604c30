/**
 * The boundary cases of the document's Terms, from the trees to JOIN: a test for each sentence, named
 * in its remark.
 */
public final class UpdateBoundariesTest {
    private static final int MIN = Trees.MIN;
    private static final int MAX = Trees.MAX;

    private UpdateBoundariesTest() {
    }

    public static void main(String[] args) {
        keysAtTheEndsOfInt();
        greaterWeightGoesAbove();
        lesserKeyGoesAboveWithTheSameWeight();
        nodesNeverChange();
        seedsAtTheEnds();
        weightIsInBits16To19();
        copiesKeepWeightAndValue();
        putOfAnOldKeyCopiesTheWayToIt();
        putOfAnOldKeyKeepsItsTrees();
        putOfAnOldKeyDrawsNothing();
        putIntoNone();
        putUnderAll();
        putBetween();
        putOverAll();
        putOverLesserOrGreaterOnesAlone();
        putCopiesTheWayAlone();
        removeOfNoKey();
        removeOfTheRoot();
        removeCopiesWhatIsAbove();
        jointWithNone();
        jointByWeight();
        jointWithTheSameWeight();
        jointThroughBothTrees();
        onlyPutDraws();
        belowGoesLeftFromK();
        belowGoesOnUntilThereIsNone();
        belowLinksTheLesserOnes();
        belowOfNothingIsNone();
        belowAtTheEndsOfInt();
        joinWithNone();
        joinOfNeighbours();
        joinIsTheJoint();
        Check.end();
    }

    /**
     * Checks what an update makes: its tree, its fresh nodes, and how many nodes it has in common with
     * a version.
     */
    private static int makes(String what, TreapVersions x, Check.Call update, String shape, int fresh, int of, int common) {
        int used = x.used();
        int made = (int) Check.answerOf(update);
        Trees.isTree(what + ": tree", x, made, shape);
        Check.same(what + ": fresh nodes", fresh, x.used() - used);
        Check.same(what + ": nodes in common with " + of, common, x.shared(of, made));
        return made;
    }

    /** The same, and the version made is dropped again. */
    private static void wouldMake(String what, TreapVersions x, Check.Call update, String shape, int fresh, int of, int common) {
        x.drop(makes(what, x, update, shape, fresh, of, common));
    }

    /**
     * An object whose version 1 or 2, as the number of keys is odd or even, has these keys with these
     * weights.
     */
    private static TreapVersions withKeys(int[] weights, int... keys) {
        TreapVersions x = Trees.withWeights(40, 8, weights);
        Check.same("the version with the keys", 2 - keys.length % 2, Trees.putAll(x, 0, keys));
        return x;
    }

    /**
     * Terms: "All keys in the left tree are less, all in the right one greater than the node's."
     * Differences of these wrap.
     */
    private static void keysAtTheEndsOfInt() {
        Trees.isTree("ends under 0", withKeys(Trees.row(9, 5, 3), 0, MIN, MAX), 1, "0(-2147483648,2147483647)");
        Trees.isTree("least under greatest", withKeys(Trees.row(9, 5), MAX, MIN), 2, "2147483647(-2147483648,-)");
        Trees.isTree("greatest under least", withKeys(Trees.row(9, 5), MIN, MAX), 2, "-2147483648(-,2147483647)");
        Trees.isTree("1 under least", withKeys(Trees.row(9, 5), MIN, 1), 2, "-2147483648(-,1)");
        Trees.isTree("-2 under greatest", withKeys(Trees.row(9, 5), MAX, -2), 2, "2147483647(-2,-)");
    }

    /** Terms: "x GOES ABOVE y when its weight is greater", from the least weight, 0, to the greatest, 15. */
    private static void greaterWeightGoesAbove() {
        Trees.isTree("15 above 0", withKeys(Trees.row(0, 15), 1, 2), 2, "2(1,-)");
        Trees.isTree("0 under 15", withKeys(Trees.row(15, 0), 1, 2), 2, "1(-,2)");
        Trees.isTree("8 above 7", withKeys(Trees.row(7, 8), 1, 2), 2, "2(1,-)");
        Trees.isTree("7 under 8", withKeys(Trees.row(8, 7), 1, 2), 2, "1(-,2)");
        Trees.isTree("a lesser key with a lesser weight", withKeys(Trees.row(8, 7), 2, 1), 2, "2(1,-)");
        Trees.isTree("a lesser key with a greater weight", withKeys(Trees.row(7, 8), 2, 1), 2, "1(-,2)");
    }

    /** Terms: "or the weights are the same and its key is less". */
    private static void lesserKeyGoesAboveWithTheSameWeight() {
        for (int w : Trees.row(0, 7, 15)) {
            Trees.isTree("the greater key comes last", withKeys(Trees.row(w, w), 1, 2), 2, "1(-,2)");
            Trees.isTree("the lesser key comes last", withKeys(Trees.row(w, w), 2, 1), 2, "1(-,2)");
        }
        Trees.isTree("least key last", withKeys(Trees.row(7, 7), MAX, MIN), 2, "-2147483648(-,2147483647)");
        Trees.isTree("greatest key last", withKeys(Trees.row(7, 7), MIN, MAX), 2, "-2147483648(-,2147483647)");
        Trees.isTree("between two of the same", withKeys(Trees.row(7, 7, 7), 1, 3, 2), 1, "1(-,2(-,3))");
    }

    /**
     * Terms: "Nodes never change"; and the first words: "an update makes another version and leaves
     * all others as they are".
     */
    private static void nodesNeverChange() {
        TreapVersions x = Trees.fourKeys(14);
        x.drop(1);
        x.drop(2);
        x.drop(3);
        String before = Trees.entries(x, 4);
        for (int round = 0; round < 6; round++) {
            x.drop(Trees.putAll(x, 4, 2, 9));
            x.drop(x.put(4, 1, 99));
            x.drop(x.remove(4, 4));
            x.drop(x.below(4, 6));
            x.drop(x.join(0, 4));
            Check.text("values behind updates", before, () -> Trees.entries(x, 4));
            Trees.isTree("tree behind updates", x, 4, "4(2(1,-),6)");
        }
        Check.holds("the store was swept meanwhile", x.sweeps() > 0);
    }

    /**
     * Terms: "it becomes itself times 1103515245 plus 12345 (it wraps)". The trees due come
     * from a small program of another language, by the weights: 0, 12, 4, 5, 10, 15, 13, 13 with the
     * seed 0, and so on.
     */
    private static void seedsAtTheEnds() {
        String of0 = "5(1(0,4(3(2,-),-)),6(-,7))";
        String ofMinus1 = "7(3(0(-,1(-,2)),4(-,6(5,-))),-)";
        seedMakes(0, of0);
        seedMakes(1, "1(0,3(2,4(-,5(-,7(6,-)))))");
        seedMakes(-1, ofMinus1);
        seedMakes(MIN, of0);
        seedMakes(MAX, ofMinus1);
        seedMakes(65535, "3(2(0(-,1),-),6(5(4,-),7))");
        seedMakes(65536, "7(0(-,2(1,5(4(3,-),6))),-)");
        seedMakes(1 << 19, "3(2(0(-,1),-),5(4,6(-,7)))");
        seedMakes(1 << 20, of0);
    }

    private static void seedMakes(int seed, String shape) {
        TreapVersions x = new TreapVersions(40, 8, seed);
        int version = Trees.putAll(x, 0, 0, 1, 2, 3, 4, 5, 6, 7);
        Trees.isTree("seed " + seed, x, version, shape);
    }

    /** Terms: "the weight is the number in its bits 16 .. 19 (bit 0 the lowest)". */
    private static void weightIsInBits16To19() {
        bitsDecide("bit 20 is no bit of the weight: 4 (and bit 20 not), then 2 (and bit 20)", 21, "1(-,2)");
        bitsDecide("bit 19 is a bit of the weight: 6, then 14", 1, "2(1,-)");
        bitsDecide("bit 16 is a bit of the weight: 0, then 1", 33, "2(1,-)");
        bitsDecide("bit 15 is no bit of the weight: 3 (and bit 15 not), then 3 (and bit 15)", 3, "1(-,2)");
    }

    private static void bitsDecide(String what, int seed, String shape) {
        TreapVersions x = new TreapVersions(40, 8, seed);
        Trees.isTree(what, x, Trees.putAll(x, 0, 1, 2), shape);
    }

    /**
     * Terms: "TO COPY a node is to make a FRESH one with the same key, weight and value": put, remove,
     * below and join copy 1 here.
     */
    private static void copiesKeepWeightAndValue() {
        for (int w : Trees.row(4, 6)) {
            String shape = w < 5 ? "1(-,8)" : "8(1,-)";
            copyThenPut("put", w, shape, (x, version) -> x.put(version, 1, 10));
            copyThenPut("remove", w, shape, (x, version) -> x.remove(version, 2));
            copyThenPut("below", w, shape, (x, version) -> x.below(version, 2));
            copyThenPut("join", w, shape, (x, version) -> x.remove(x.join(x.below(version, 2), x.put(0, 9, 0)), 9));
        }
    }

    private interface Update {
        int of(TreapVersions x, int version);
    }

    /**
     * The key 1 with the weight 5 and, where it has one, 2 with the weight 2 under it; behind the copy
     * comes 8.
     */
    private static void copyThenPut(String what, int w, String shape, Update update) {
        boolean alone = what.equals("put");
        TreapVersions x = alone ? Trees.withWeights(40, 8, 5, w)
                : what.equals("join") ? Trees.withWeights(40, 8, 5, 2, 1, w) : Trees.withWeights(40, 8, 5, 2, w);
        int version = alone ? Trees.putAll(x, 0, 1) : Trees.putAll(x, 0, 1, 2);
        int copied = update.of(x, version);
        Check.same(what + " copies 1", 0, x.shared(version, copied));
        Check.text(what + ": the copy's value", "1:10", () -> Trees.entries(x, copied));
        Trees.isTree(what + ": the copy's weight against " + w, x, x.put(copied, 8, 80), shape);
    }

    /**
     * Terms, PUT: "If T has k: the nodes from the root of T to that with k are copied", from the root
     * alone to the whole way.
     */
    private static void putOfAnOldKeyCopiesTheWayToIt() {
        TreapVersions x = Trees.fourKeys(40);
        wouldMake("put 4, the root", x, () -> x.put(4, 4, 44), "4(2(1,-),6)", 1, 4, 3);
        wouldMake("put 2, a node between", x, () -> x.put(4, 2, 22), "4(2(1,-),6)", 2, 4, 2);
        wouldMake("put 1, the last", x, () -> x.put(4, 1, 11), "4(2(1,-),6)", 3, 4, 1);
        wouldMake("put 6, to the right", x, () -> x.put(4, 6, 66), "4(2(1,-),6)", 2, 4, 2);
        wouldMake("put 4 with the value that it has", x, () -> x.put(4, 4, 40), "4(2(1,-),6)", 1, 4, 3);
    }

    /**
     * Terms, PUT: "the last with the value v and the trees that it has, each other one with the copy
     * of the next in place of it".
     */
    private static void putOfAnOldKeyKeepsItsTrees() {
        TreapVersions x = Trees.fourKeys(40);
        Check.same("put 2", 5, x.put(4, 2, MIN));
        Check.text("put 2: values", "1:10 2:-2147483648 4:40 6:60", () -> Trees.entries(x, 5));
        Check.same("put 4", 6, x.put(5, 4, MAX));
        Check.text("put 4: values", "1:10 2:-2147483648 4:2147483647 6:60", () -> Trees.entries(x, 6));
        Check.text("the version before them", "1:10 2:20 4:40 6:60", () -> Trees.entries(x, 4));
    }

    /** Terms, PUT: "If not: a weight w is drawn": so none is when T has k. */
    private static void putOfAnOldKeyDrawsNothing() {
        TreapVersions x = Trees.withWeights(40, 8, 5, 9, 1);
        x.put(0, 1, 1);
        x.put(1, 1, 2);
        Trees.isTree("2 has the second weight", x, x.put(2, 2, 2), "2(1,-)");
    }

    /**
     * Terms, PUT: "until there is none; a new node with k, v and w is fresh": in none there is no way
     * at all.
     */
    private static void putIntoNone() {
        for (int k : Trees.row(MIN, -1, 0, 1, MAX)) {
            TreapVersions x = new TreapVersions(1, 2, 1);
            makes("put " + k + " into none", x, () -> x.put(0, k, 7), Integer.toString(k), 1, 0, 0);
            Check.same("put " + k + " into none: value", 7, () -> x.get(1, k));
        }
    }

    /**
     * Terms, PUT: "those that go above the new one, which come first, each with the copy of the next,
     * the last of them with the new one".
     */
    private static void putUnderAll() {
        TreapVersions x = withKeys(Trees.row(9, 6, 4), 4, 2);
        wouldMake("put 3 under 4 and 2", x, () -> x.put(2, 3, 30), "4(2(-,3),-)", 3, 2, 0);
        TreapVersions y = withKeys(Trees.row(9, 6, 4), 4, 6);
        wouldMake("put 5 under 4 and 6", y, () -> y.put(2, 5, 50), "4(-,6(5,-))", 3, 2, 0);
    }

    /**
     * Terms, PUT: "the first being the new node's left tree, or none; those with greater keys
     * likewise": some of the way above, some under.
     */
    private static void putBetween() {
        TreapVersions x = withKeys(Trees.row(9, 3, 6), 4, 2);
        wouldMake("put 3 between 4 and 2", x, () -> x.put(2, 3, 30), "4(3(2,-),-)", 3, 2, 0);
        TreapVersions y = withKeys(Trees.row(9, 3, 6), 4, 6);
        wouldMake("put 5 between 4 and 6", y, () -> y.put(2, 5, 50), "4(-,5(-,6))", 3, 2, 0);
    }

    /**
     * Terms, PUT: "each with the copy of the next one of these (the last with none) as its right
     * tree": 4 had 6, and 6 had nothing.
     */
    private static void putOverAll() {
        TreapVersions x = withKeys(Trees.row(8, 7, 6, 5, 9), 2, 8, 4, 6);
        Trees.isTree("before the split", x, 2, "2(-,8(4(-,6),-))");
        wouldMake("put 5 over 2, 8, 4, 6", x, () -> x.put(2, 5, 50), "5(2(-,4),8(6,-))", 5, 2, 0);
        TreapVersions y = withKeys(Trees.row(8, 7, 6, 5, 9), 8, 2, 6, 4);
        Trees.isTree("before the other split", y, 2, "8(2(-,6(4,-)),-)");
        wouldMake("put 5 over 8, 2, 6, 4", y, () -> y.put(2, 5, 50), "5(2(-,4),8(6,-))", 5, 2, 0);
    }

    /**
     * Terms, PUT: "or none": the new node's left or right tree when the way has no lesser or no
     * greater key.
     */
    private static void putOverLesserOrGreaterOnesAlone() {
        TreapVersions x = withKeys(Trees.row(7, 5, 9), 1, 2);
        wouldMake("put 3 over lesser ones", x, () -> x.put(2, 3, 30), "3(1(-,2),-)", 3, 2, 0);
        TreapVersions y = withKeys(Trees.row(7, 5, 9), 3, 2);
        wouldMake("put 1 over greater ones", y, () -> y.put(2, 1, 10), "1(-,3(2,-))", 3, 2, 0);
    }

    /** Terms, PUT: "all nodes of the way are copied": and no other. */
    private static void putCopiesTheWayAlone() {
        TreapVersions x = withKeys(Trees.row(5, 3, 2, 9), 4, 2, 6);
        Trees.isTree("before", x, 1, "4(2,6)");
        wouldMake("put 7 shares 2", x, () -> x.put(1, 7, 70), "7(4(2,6),-)", 3, 1, 1);
        TreapVersions y = withKeys(Trees.row(5, 3, 2, 1), 4, 2, 6);
        wouldMake("put 1 shares 6", y, () -> y.put(1, 1, 10), "4(2(1,-),6)", 3, 1, 1);
        TreapVersions lesserSide = withKeys(Trees.row(5, 3, 2, 9), 4, 2, 6);
        wouldMake("put 5 shares 2", lesserSide, () -> lesserSide.put(1, 5, 50), "5(4(2,-),6)", 3, 1, 1);
        TreapVersions greaterSide = withKeys(Trees.row(5, 3, 2, 9), 4, 2, 6);
        wouldMake("put 3 shares 6", greaterSide, () -> greaterSide.put(1, 3, 30), "3(2,4(-,6))", 3, 1, 1);
    }

    /** Terms, REMOVE: "If T has k not: T itself." */
    private static void removeOfNoKey() {
        TreapVersions x = Trees.fourKeys(40);
        for (int k : Trees.row(MIN, -1, 0, 3, 5, 7, MAX)) {
            wouldMake("remove " + k, x, () -> x.remove(4, k), "4(2(1,-),6)", 0, 4, 4);
            wouldMake("remove " + k + " from none", x, () -> x.remove(0, k), "-", 0, 0, 0);
        }
    }

    /** Terms, REMOVE: "when it is the root, the joint is the tree". */
    private static void removeOfTheRoot() {
        TreapVersions x = Trees.fourKeys(40);
        wouldMake("remove the root over two trees", x, () -> x.remove(4, 4), "6(2(1,-),-)", 1, 4, 2);
        wouldMake("remove the root over a left tree", x, () -> x.remove(2, 4), "2", 0, 2, 1);
        wouldMake("remove the root alone", x, () -> x.remove(1, 4), "-", 0, 1, 0);
        TreapVersions y = withKeys(Trees.row(9, 5), 4, 6);
        wouldMake("remove the root over a right tree", y, () -> y.remove(2, 4), "6", 0, 2, 1);
        TreapVersions z = withKeys(Trees.row(9, 5), MIN, MAX);
        wouldMake("remove the least int", z, () -> z.remove(2, MIN), "2147483647", 0, 2, 1);
        wouldMake("remove the greatest int", z, () -> z.remove(2, MAX), "-2147483648", 1, 2, 0);
    }

    /**
     * Terms, REMOVE: "the nodes above that with k on the way to it are copied, each with the copy of
     * the next, the last with the JOINT".
     */
    private static void removeCopiesWhatIsAbove() {
        TreapVersions x = Trees.fourKeys(40);
        wouldMake("remove 1, under two", x, () -> x.remove(4, 1), "4(2,6)", 2, 4, 1);
        wouldMake("remove 6, under one", x, () -> x.remove(4, 6), "4(2(1,-),-)", 1, 4, 2);
        TreapVersions y = withKeys(Trees.row(9, 8, 7, 6, 5), 1, 8, 4, 2, 6);
        Trees.isTree("before", y, 1, "1(-,8(4(2,6),-))");
        wouldMake("remove 4, under two and over two", y, () -> y.remove(1, 4), "1(-,8(2(-,6),-))", 3, 1, 1);
    }

    /** Terms, REMOVE, the joint: "when one of them is none, the other": it is not copied. */
    private static void jointWithNone() {
        TreapVersions x = Trees.fourKeys(40);
        wouldMake("remove 2 over a left tree", x, () -> x.remove(4, 2), "4(1,6)", 1, 4, 2);
        TreapVersions y = withKeys(Trees.row(9, 6, 4), 4, 2, 3);
        wouldMake("remove 2 over a right tree", y, () -> y.remove(1, 2), "4(3,-)", 1, 1, 1);
        wouldMake("remove 3 over no tree", y, () -> y.remove(1, 3), "4(2,-)", 2, 1, 0);
    }

    /**
     * Terms, REMOVE, the joint: "if l's root goes above r's, a copy of l's root [...]; if not, a copy
     * of r's root".
     */
    private static void jointByWeight() {
        TreapVersions x = withKeys(Trees.row(9, 7, 6), 4, 2, 6);
        wouldMake("the left root above", x, () -> x.remove(1, 4), "2(-,6)", 1, 1, 1);
        TreapVersions y = withKeys(Trees.row(9, 6, 7), 4, 2, 6);
        wouldMake("the right root above", y, () -> y.remove(1, 4), "6(2,-)", 1, 1, 1);
    }

    /**
     * Terms, goes above, in a joint: "or the weights are the same and its key is less": the left root
     * then.
     */
    private static void jointWithTheSameWeight() {
        TreapVersions x = withKeys(Trees.row(9, 7, 7), 4, 2, 6);
        wouldMake("the same weight", x, () -> x.remove(1, 4), "2(-,6)", 1, 1, 1);
        TreapVersions y = withKeys(Trees.row(9, 7, 7), 0, MIN, MAX);
        wouldMake("the same weight at the ends of int", y, () -> y.remove(1, 0), "-2147483648(-,2147483647)", 1, 1, 1);
    }

    /**
     * Terms, REMOVE, the joint: "with the joint of its right tree and r as its right tree", "with the
     * joint of l and its left tree as its left tree".
     */
    private static void jointThroughBothTrees() {
        TreapVersions x = withKeys(Trees.row(9, 8, 7, 6, 5), 5, 2, 8, 3, 7);
        Trees.isTree("before", x, 1, "5(2(-,3),8(7,-))");
        wouldMake("the joint of 2, 3 and 8, 7", x, () -> x.remove(1, 5), "2(-,8(3(-,7),-))", 3, 1, 1);
        TreapVersions y = withKeys(Trees.row(9, 8, 7, 6, 5), 5, 8, 2, 7, 3);
        Trees.isTree("before", y, 1, "5(2(-,3),8(7,-))");
        wouldMake("the joint of 2, 3 and 7, 8", y, () -> y.remove(1, 5), "8(2(-,7(3,-)),-)", 3, 1, 1);
    }

    /** Terms, the seed: it changes when a weight is drawn, and REMOVE, BELOW and JOIN draw none. */
    private static void onlyPutDraws() {
        TreapVersions x = Trees.withWeights(40, 8, 5, 9, 1);
        x.put(0, 1, 1);
        x.remove(1, 7);
        x.below(1, 7);
        x.join(1, 0);
        x.remove(1, 1);
        Trees.isTree("2 has the second weight", x, x.put(1, 2, 2), "2(1,-)");
    }

    /**
     * Terms, BELOW: "else (also from k) to the left": k itself is not below k, and the way goes on
     * under it.
     */
    private static void belowGoesLeftFromK() {
        TreapVersions x = Trees.fourKeys(40);
        wouldMake("below 4, the root", x, () -> x.below(4, 4), "2(1,-)", 1, 4, 1);
        wouldMake("below 2", x, () -> x.below(4, 2), "1", 1, 4, 0);
        wouldMake("below 6", x, () -> x.below(4, 6), "4(2(1,-),-)", 1, 4, 2);
    }

    /**
     * Terms, BELOW: "from a node with a key less than k to the right [...] until there is none": a
     * tree wholly below k is copied so too.
     */
    private static void belowGoesOnUntilThereIsNone() {
        TreapVersions x = Trees.fourKeys(40);
        wouldMake("below 7", x, () -> x.below(4, 7), "4(2(1,-),6)", 2, 4, 2);
        wouldMake("below the greatest int", x, () -> x.below(4, MAX), "4(2(1,-),6)", 2, 4, 2);
        wouldMake("below 5", x, () -> x.below(4, 5), "4(2(1,-),-)", 1, 4, 2);
        wouldMake("below 3", x, () -> x.below(4, 3), "2(1,-)", 1, 4, 1);
    }

    /** Terms, BELOW: "each with the copy of the next one of these (the last with none) as its right tree". */
    private static void belowLinksTheLesserOnes() {
        TreapVersions x = withKeys(Trees.row(8, 7, 6, 5), 2, 8, 4, 6);
        Trees.isTree("before", x, 2, "2(-,8(4(-,6),-))");
        wouldMake("below 5: 2 and 4", x, () -> x.below(2, 5), "2(-,4)", 2, 2, 0);
        wouldMake("below 6: 2 and 4", x, () -> x.below(2, 6), "2(-,4)", 2, 2, 0);
        wouldMake("below 7: 2, 4 and 6", x, () -> x.below(2, 7), "2(-,4(-,6))", 3, 2, 0);
        wouldMake("below 3: 2", x, () -> x.below(2, 3), "2", 1, 2, 0);
    }

    /** Terms, BELOW: "the first one is the tree, or none". */
    private static void belowOfNothingIsNone() {
        TreapVersions x = Trees.fourKeys(40);
        for (int k : Trees.row(MIN, -1, 0, 1)) {
            wouldMake("below " + k, x, () -> x.below(4, k), "-", 0, 4, 0);
        }
        for (int k : Trees.row(MIN, 0, 1, MAX)) {
            wouldMake("below " + k + " of none", x, () -> x.below(0, k), "-", 0, 0, 0);
        }
    }

    /** Terms, BELOW: "with keys less than k", where k or the key is an end of int. */
    private static void belowAtTheEndsOfInt() {
        TreapVersions x = withKeys(Trees.row(9, 5, 3), 0, MIN, MAX);
        wouldMake("below the least int", x, () -> x.below(1, MIN), "-", 0, 1, 0);
        wouldMake("below the one behind it", x, () -> x.below(1, MIN + 1), "-2147483648", 1, 1, 0);
        wouldMake("below the greatest int", x, () -> x.below(1, MAX), "0(-2147483648,-)", 1, 1, 1);
    }

    /** Terms, the joint, for JOIN: "when one of them is none, the other"; nothing is copied. */
    private static void joinWithNone() {
        TreapVersions x = Trees.fourKeys(40);
        wouldMake("join of none and a tree", x, () -> x.join(0, 4), "4(2(1,-),6)", 0, 4, 4);
        wouldMake("join of a tree and none", x, () -> x.join(4, 0), "4(2(1,-),6)", 0, 4, 4);
        wouldMake("join of none and none", x, () -> x.join(0, 0), "-", 0, 0, 0);
        TreapVersions y = withKeys(Trees.row(9, 5), MIN, MAX);
        wouldMake("join of none and the ends of int", y, () -> y.join(0, 2), "-2147483648(-,2147483647)", 0, 2, 2);
        wouldMake("join of the ends of int and none", y, () -> y.join(2, 0), "-2147483648(-,2147483647)", 0, 2, 2);
    }

    /**
     * Terms, JOIN: "all keys of T being less than all of U": one less is enough, and the ends of int
     * are far enough apart.
     */
    private static void joinOfNeighbours() {
        int[][] pairs = {{MIN, MIN + 1}, {-1, 0}, {0, 1}, {MAX - 1, MAX}, {MIN, MAX}, {MIN, 0}, {-1, MAX}};
        for (int[] pair : pairs) {
            TreapVersions x = Trees.withWeights(40, 8, 5, 7);
            x.put(0, pair[0], 1);
            x.put(0, pair[1], 2);
            String shape = pair[1] + "(" + pair[0] + ",-)";
            makes("join of " + pair[0] + " and " + pair[1], x, () -> x.join(1, 2), shape, 1, 1, 1);
            Check.same("join of " + pair[0] + " and " + pair[1] + ": the upper is copied", 0, x.shared(2, 3));
        }
    }

    /** Terms, JOIN: "the joint of T and U", with the trees of the joint's own tests. */
    private static void joinIsTheJoint() {
        TreapVersions x = Trees.withWeights(40, 8, 8, 6, 7, 5);
        int lower = Trees.putAll(x, 0, 2, 3);
        int upper = Trees.putAll(x, 0, 8, 7);
        int made = makes("join of 2, 3 and 8, 7", x, () -> x.join(lower, upper), "2(-,8(3(-,7),-))", 3, lower, 0);
        Check.same("join of 2, 3 and 8, 7: 7 is the upper's", 1, x.shared(upper, made));
        TreapVersions y = Trees.withWeights(40, 8, 6, 6);
        y.put(0, 1, 1);
        y.put(0, 2, 2);
        makes("join with the same weight", y, () -> y.join(1, 2), "1(-,2)", 1, 2, 1);
        Check.same("join with the same weight: the lower is copied", 0, y.shared(1, 3));
    }
}
