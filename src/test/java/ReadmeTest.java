/** The calls that README.md shows, with the answers that it tells. */
public final class ReadmeTest {
    private ReadmeTest() {
    }

    public static void main(String[] args) {
        TreapVersions maps = new TreapVersions(40, 8, 1);
        int one = maps.put(0, 5, 50);
        int two = maps.put(one, 8, 80);
        Check.same("one", 1, one);
        Check.same("two", 2, two);
        Check.same("get", 80, () -> maps.get(two, 8));
        Check.holds("contains", !maps.contains(one, 8));
        Check.same("sum", 130, maps.sum(two, 0, 10));
        Check.same("floor", 5, () -> maps.floor(two, 7));
        Check.same("keyAt", 8, () -> maps.keyAt(two, 1));
        int less = maps.below(two, 8);
        int rest = maps.remove(two, 5);
        Check.same("below", 1, maps.size(less));
        Check.same("join", 2, maps.size(maps.join(less, rest)));
        Check.same("MIXED", TreapVersions.MIXED, maps.join(rest, less));
        Check.holds("drop", maps.drop(one));
        Check.same("BADVER", TreapVersions.BADVER, maps.put(one, 1, 10));
        Check.same("get of one dropped", Check.NO_SUCH_ELEMENT, () -> maps.get(one, 5));
        Check.end();
    }
}
