import java.util.List;

/** The terms about roots. */
public final class TermsRootsTest {
    public static void main(String[] args) {
        rootsHoldAnyInt();
        badIndices();
        onlyThreeCallsChangeRoots();
        Checks.finish();
    }

    private static void rootsHoldAnyInt() {
        Checks.sentence("There are n roots, numbered 0 to n - 1, each holding any int.");
        for (int n = 2; n <= 8; n++) {
            for (int word : Checks.FAR_INTS) {
                MostlyCopying x = new MostlyCopying(n, 60);
                for (int i = 0; i < n; i++) {
                    Checks.due("setRoot(" + i + ", ...)", x.setRoot(i, word + i), 0);
                }
                for (int i = 0; i < n; i++) {
                    Checks.due("root(" + i + ")", x.root(i), word + i);
                }
            }
        }
    }

    private static void badIndices() {
        Checks.sentence("A root index is *bad* when it is below 0 or at least n.");
        for (int n = 2; n <= 8; n++) {
            MostlyCopying x = new MostlyCopying(n, 60);
            x.alloc(0, 1, 1);
            for (int bad : Heaps.badRoots(n)) {
                Checks.refused("setRoot(" + bad + ", 5)", x, () -> x.setRoot(bad, 5), -1);
                Checks.refused("alloc(" + bad + ", 0, 1)", x, () -> x.alloc(bad, 0, 1), -1);
                Checks.refused("put(" + bad + ", 1, 5)", x, () -> x.put(bad, 1, 5), -1);
                Checks.refused("link(" + bad + ", 0, 0)", x, () -> x.link(bad, 0, 0), -1);
                Checks.refused("link(0, 0, " + bad + ")", x, () -> x.link(0, 0, bad), -1);
                Checks.refused("load(" + bad + ", 0, 0)", x, () -> x.load(bad, 0, 0), -1);
                Checks.refused("load(0, " + bad + ", 0)", x, () -> x.load(0, bad, 0), -1);
                Checks.due("root(" + bad + ")", x.root(bad), 0);
            }
            int last = n - 1;
            Checks.due("alloc(n - 1, 1, 1)", x.alloc(last, 1, 1), 1003);
            Checks.due("put(n - 1, 1, 5)", x.put(last, 1, 5), 0);
            Checks.due("link(n - 1, 0, n - 1)", x.link(last, 0, last), 0);
            Checks.due("load(n - 1, n - 1, 1)", x.load(last, last, 1), 0);
            Checks.due("root(n - 1)", x.root(last), 5);
            Checks.due("setRoot(n - 1, 6)", x.setRoot(last, 6), 0);
        }
    }

    private static void onlyThreeCallsChangeRoots() {
        Checks.sentence("Only `setRoot`, `alloc` and `load` change roots; `collect` never does.");
        MostlyCopying x = new MostlyCopying(8, 60);
        x.alloc(0, 2, 1);
        x.alloc(1, 0, 3);
        x.alloc(1, 0, 3);
        x.setRoot(2, 1003);
        x.setRoot(3, 1011);
        x.setRoot(4, 999);
        x.setRoot(5, Integer.MIN_VALUE);
        x.setRoot(6, 1013);
        x.setRoot(7, 1255);
        List<Integer> roots = Checks.roots(x);
        x.put(2, 2, 9);
        x.link(2, 0, 3);
        x.link(2, 1, 2);
        Checks.rootsUnchanged("put and link", x, roots);
        x.collect();
        Checks.rootsUnchanged("collect, nothing moves", x, roots);
        x.setRoot(1, 0);
        x.setRoot(3, 0);
        roots = Checks.roots(x);
        int before = x.addressOf(3);
        x.collect();
        Checks.that("3 has moved", x.addressOf(3) != before);
        Checks.rootsUnchanged("collect, one moves", x, roots);
        x.setRoot(0, 0);
        x.setRoot(2, 0);
        roots = Checks.roots(x);
        Checks.due("collect(), all are discarded", x.collect(), 3);
        Checks.rootsUnchanged("collect, all are discarded", x, roots);
    }
}
