import java.util.List;

/** The terms about refusals, for every call that can be refused and each of its reasons. */
public final class RefusalsTest {
    private static final int MIN = Integer.MIN_VALUE;
    private static final int MAX = Integer.MAX_VALUE;
    private static final int[] BAD_ROOTS = {MIN, -1, 4, MAX};
    private static final int[] NO_OBJECTS = {MIN, -1, 1, 999, 1007, 1011, 1032, 1255, 1256, MAX};

    public static void main(String[] args) {
        changesNothing();
        changesNothingWhenFull();
        changesNothingWhenSpent();
        orderInAlloc();
        orderInPut();
        orderInLink();
        orderInLoad();
        Checks.finish();
    }

    /** Roots 0 and 1 in an object of two pointers and a raw, root 2 in one of raws, root 3 stale. */
    private static MostlyCopying heap(int stale) {
        MostlyCopying x = WordReads.heap();
        x.setRoot(0, 1024);
        x.setRoot(1, 1027);
        x.setRoot(2, 1018);
        x.link(0, 0, 2);
        x.link(0, 1, 0);
        x.put(0, 2, 33);
        x.put(2, 1, 44);
        x.setRoot(3, stale);
        return x;
    }

    private static void codeAndNoChange() {
        Checks.sentence("Every refused call answers its negative code and changes nothing.");
    }

    private static void changesNothing() {
        codeAndNoChange();
        for (int stale : NO_OBJECTS) {
            MostlyCopying x = heap(stale);
            refuseBadRoots(x);
            refuseShapes(x);
            refuseInPut(x);
            refuseInLink(x);
            refuseInLoad(x);
            Heaps.goOnAlike("refused calls", x, heap(stale));
        }
    }

    private static void refuseBadRoots(MostlyCopying x) {
        for (int bad : BAD_ROOTS) {
            Checks.refused("setRoot(" + bad + ", 1000)", x, () -> x.setRoot(bad, 1000), -1);
            Checks.refused("alloc(" + bad + ", 1, 1)", x, () -> x.alloc(bad, 1, 1), -1);
            Checks.refused("put(" + bad + ", 2, 9)", x, () -> x.put(bad, 2, 9), -1);
            Checks.refused("link(" + bad + ", 0, 1)", x, () -> x.link(bad, 0, 1), -1);
            Checks.refused("link(0, 0, " + bad + ")", x, () -> x.link(0, 0, bad), -1);
            Checks.refused("load(" + bad + ", 0, 2)", x, () -> x.load(bad, 0, 2), -1);
            Checks.refused("load(0, " + bad + ", 2)", x, () -> x.load(0, bad, 2), -1);
        }
    }

    private static void refuseShapes(MostlyCopying x) {
        int[][] shapes = {
            {0, 0}, {-1, 2}, {2, -1}, {4, 0}, {0, 4}, {4, -3}, {-3, 4}, {2, 2}, {3, 1}, {1, 3},
            {MAX, MAX}, {MAX, MIN}, {MIN, MIN}, {MAX, 2 - MAX}, {MIN, MIN + 2}, {MIN + 1, MAX}
        };
        for (int[] s : shapes) {
            String call = "alloc(0, " + s[0] + ", " + s[1] + ")";
            Checks.refused(call, x, () -> x.alloc(0, s[0], s[1]), -5);
        }
    }

    private static void refuseInPut(MostlyCopying x) {
        Checks.refused("put(3, 0, 9), no object", x, () -> x.put(3, 0, 9), -2);
        for (int k : Heaps.badFields(3)) {
            Checks.refused("put(1, " + k + ", 9)", x, () -> x.put(1, k, 9), -3);
            Checks.refused("put(2, " + k + ", 9)", x, () -> x.put(2, k, 9), -3);
        }
        Checks.refused("put(0, 0, 9), a pointer", x, () -> x.put(0, 0, 9), -4);
        Checks.refused("put(0, 1, 0), a pointer", x, () -> x.put(0, 1, 0), -4);
    }

    private static void refuseInLink(MostlyCopying x) {
        Checks.refused("link(3, 0, 0), no object", x, () -> x.link(3, 0, 0), -2);
        for (int k : Heaps.badFields(3)) {
            Checks.refused("link(1, " + k + ", 0)", x, () -> x.link(1, k, 0), -3);
            Checks.refused("link(2, " + k + ", 0)", x, () -> x.link(2, k, 0), -3);
        }
        Checks.refused("link(0, 2, 0), a raw", x, () -> x.link(0, 2, 0), -4);
        Checks.refused("link(2, 0, 0), a raw", x, () -> x.link(2, 0, 0), -4);
        Checks.refused("link(0, 0, 3), to no object", x, () -> x.link(0, 0, 3), -2);
        Checks.refused("link(0, 1, 3), to no object", x, () -> x.link(0, 1, 3), -2);
    }

    private static void refuseInLoad(MostlyCopying x) {
        Checks.refused("load(0, 3, 0), no object", x, () -> x.load(0, 3, 0), -2);
        Checks.refused("load(3, 3, 0), no object", x, () -> x.load(3, 3, 0), -2);
        for (int k : Heaps.badFields(3)) {
            Checks.refused("load(3, 1, " + k + ")", x, () -> x.load(3, 1, k), -3);
            Checks.refused("load(2, 2, " + k + ")", x, () -> x.load(2, 2, k), -3);
        }
    }

    private static void changesNothingWhenFull() {
        codeAndNoChange();
        MostlyCopying x = new MostlyCopying(3, 16);
        MostlyCopying y = new MostlyCopying(3, 16);
        for (MostlyCopying each : List.of(x, y)) {
            each.alloc(0, 1, 2);
            each.alloc(1, 1, 2);
            each.alloc(1, 1, 2);
            each.alloc(1, 1, 1);
        }
        for (int[] s : Heaps.SHAPES) {
            String call = "alloc(1, " + s[0] + ", " + s[1] + ")";
            Checks.refused(call, x, () -> x.alloc(1, s[0], s[1]), -6);
        }
        Heaps.goOnAlike("refused calls", x, y);
    }

    private static void changesNothingWhenSpent() {
        codeAndNoChange();
        MostlyCopying x = Heaps.spent(3, 3);
        for (int[] s : Heaps.SHAPES) {
            // Root 0 holds the start of an object, root 1 holds 0.
            String shape = s[0] + ", " + s[1] + ")";
            Checks.refused("alloc(0, " + shape, x, () -> x.alloc(0, s[0], s[1]), -7);
            Checks.refused("alloc(1, " + shape, x, () -> x.alloc(1, s[0], s[1]), -7);
        }
        Heaps.goOnAlike("refused calls", x, Heaps.spent(3, 3));
    }

    private static void inOrder() {
        Checks.sentence("The reasons for refusal are taken in the order in which they are listed; "
                + "the first that applies decides.");
    }

    private static void orderInAlloc() {
        inOrder();
        MostlyCopying x = new MostlyCopying(2, 60);
        Checks.refused("root, shape", x, () -> x.alloc(2, 0, 0), -1);
        Checks.refused("root, shape", x, () -> x.alloc(-1, 4, 0), -1);
        MostlyCopying full = new MostlyCopying(2, 16);
        for (int n = 0; n < 4; n++) {
            full.alloc(0, 0, 3);
        }
        Checks.refused("root, full", full, () -> full.alloc(2, 0, 1), -1);
        Checks.refused("root, shape, full", full, () -> full.alloc(2, 2, 2), -1);
        Checks.refused("shape, full", full, () -> full.alloc(0, 2, 2), -5);
        Checks.refused("shape, full", full, () -> full.alloc(0, 0, 0), -5);
        MostlyCopying spent = Heaps.spent(3, 3);
        Checks.refused("spent alone", spent, () -> spent.alloc(0, 0, 3), -7);
        Checks.refused("root, spent", spent, () -> spent.alloc(2, 0, 1), -1);
        Checks.refused("root, shape, spent", spent, () -> spent.alloc(2, 0, 0), -1);
        Checks.refused("shape, spent", spent, () -> spent.alloc(0, 0, 0), -5);
        Checks.refused("shape, full, spent", spent, () -> spent.alloc(0, 4, 0), -5);
        MostlyCopying both = Heaps.spent(5, 2);
        Checks.refused("full, spent", both, () -> both.alloc(0, 0, 1), -6);
        Checks.refused("shape, full, spent", both, () -> both.alloc(0, 0, 0), -5);
        Checks.refused("root, full, spent", both, () -> both.alloc(-1, 0, 1), -1);
        Checks.refused("root, shape, full, spent", both, () -> both.alloc(2, 3, 3), -1);
    }

    private static void orderInPut() {
        inOrder();
        for (int stale : NO_OBJECTS) {
            MostlyCopying x = heap(stale);
            for (int k : Heaps.badFields(3)) {
                for (int bad : BAD_ROOTS) {
                    Checks.refused("root, field", x, () -> x.put(bad, k, 9), -1);
                }
                Checks.refused("object, field", x, () -> x.put(3, k, 9), -2);
            }
            Checks.refused("field, kind", x, () -> x.put(0, -1, 9), -3);
            Checks.refused("field, kind", x, () -> x.put(0, MIN, 9), -3);
        }
    }

    private static void orderInLink() {
        inOrder();
        for (int stale : NO_OBJECTS) {
            MostlyCopying x = heap(stale);
            for (int bad : BAD_ROOTS) {
                Checks.refused("root j, object", x, () -> x.link(3, 0, bad), -1);
                Checks.refused("root j, object, field", x, () -> x.link(3, 3, bad), -1);
                Checks.refused("root j, field", x, () -> x.link(0, 3, bad), -1);
                Checks.refused("root j, kind", x, () -> x.link(0, 2, bad), -1);
                Checks.refused("root i, field", x, () -> x.link(bad, 3, 0), -1);
                Checks.refused("root i, object of j", x, () -> x.link(bad, 0, 3), -1);
                Checks.refused("both roots", x, () -> x.link(bad, 0, bad), -1);
            }
            for (int k : Heaps.badFields(3)) {
                Checks.refused("object, field", x, () -> x.link(3, k, 0), -2);
                Checks.refused("object, field, object of j", x, () -> x.link(3, k, 3), -2);
                Checks.refused("field, kind", x, () -> x.link(2, k, 0), -3);
                Checks.refused("field, object of j", x, () -> x.link(0, k, 3), -3);
                Checks.refused("field, kind, object of j", x, () -> x.link(2, k, 3), -3);
            }
            Checks.refused("kind, object of j", x, () -> x.link(0, 2, 3), -4);
            Checks.refused("kind, object of j", x, () -> x.link(2, 0, 3), -4);
        }
    }

    private static void orderInLoad() {
        inOrder();
        for (int stale : NO_OBJECTS) {
            MostlyCopying x = heap(stale);
            for (int k : Heaps.badFields(3)) {
                for (int bad : BAD_ROOTS) {
                    Checks.refused("root j, object, field", x, () -> x.load(bad, 3, k), -1);
                    Checks.refused("root j, field", x, () -> x.load(bad, 0, k), -1);
                    Checks.refused("root i, field", x, () -> x.load(0, bad, k), -1);
                }
                Checks.refused("object, field", x, () -> x.load(0, 3, k), -2);
            }
            for (int bad : BAD_ROOTS) {
                Checks.refused("root j, object", x, () -> x.load(bad, 3, 0), -1);
            }
        }
    }
}
