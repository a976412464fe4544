import java.util.List;

public final class Promise02SetRootTest {
    public static void main(String[] args) {
        refusesBadRoots();
        holdsAnyInt();
        changesNothingElse();
        Checks.finish();
    }

    private static void refusesBadRoots() {
        Checks.sentence("`BAD_ROOT` if i is bad.");
        for (int n = 2; n <= 8; n++) {
            MostlyCopying x = new MostlyCopying(n, 60);
            x.alloc(0, 1, 1);
            for (int bad : Heaps.badRoots(n)) {
                Checks.refused("setRoot(" + bad + ", 77)", x, () -> x.setRoot(bad, 77), -1);
            }
            Checks.due("setRoot(0, 77), the first", x.setRoot(0, 77), 0);
            Checks.due("setRoot(n - 1, 77), the last", x.setRoot(n - 1, 77), 0);
        }
    }

    private static void holdsAnyInt() {
        Checks.sentence("Otherwise root i holds `word` (any int, whether an address or not), and "
                + "the answer is `OK`.");
        MostlyCopying x = new MostlyCopying(3, 60);
        x.alloc(0, 1, 1);
        for (int word : Heaps.noAddresses()) {
            Checks.due("setRoot(2, " + word + ")", x.setRoot(2, word), 0);
            Checks.due("root(2)", x.root(2), word);
        }
        for (int word = 990; word < 1270; word++) {
            Checks.due("setRoot(0, " + word + ")", x.setRoot(0, word), 0);
            Checks.due("root(0)", x.root(0), word);
        }
    }

    /** Into and out of pinned, unpinned, free and open pages alike. */
    private static void changesNothingElse() {
        Checks.sentence("The other roots, all objects and their fields, the pages and the open page "
                + "do not change.");
        MostlyCopying x = WordReads.heap();
        List<Integer> heap = Checks.heapState(x);
        List<Integer> roots = Checks.roots(x);
        for (int word : new int[] {0, -5, 1000, 1003, 1007, 1008, 1011, 1016, 1031, 1032, 1255}) {
            x.setRoot(1, word);
            Checks.heapUnchanged("setRoot(1, " + word + ")", x, heap);
            x.setRoot(1, 1020);
            Checks.rootsUnchanged("setRoot(1, ...) and back", x, roots);
        }
    }
}
