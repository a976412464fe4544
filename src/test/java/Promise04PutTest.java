import java.util.List;

public final class Promise04PutTest {
    public static void main(String[] args) {
        refusesBadRoots();
        refusesNoObject();
        refusesBadFields();
        refusesPointerFields();
        writesAnyInt();
        worksFromInside();
        changesNothingElse();
        Checks.finish();
    }

    /** Three objects in sequence on roots 0 to 2; root 3 is left to the tests. */
    private static MostlyCopying heap() {
        MostlyCopying x = new MostlyCopying(4, 60);
        x.alloc(0, 1, 2);
        x.alloc(1, 2, 1);
        x.alloc(2, 0, 1);
        x.link(0, 0, 1);
        x.put(1, 2, 44);
        x.put(2, 0, 55);
        return x;
    }

    private static void refusesBadRoots() {
        Checks.sentence("`BAD_ROOT` if i is bad.");
        for (int n = 2; n <= 8; n++) {
            MostlyCopying x = new MostlyCopying(n, 60);
            x.alloc(0, 1, 2);
            x.alloc(n - 1, 1, 2);
            for (int bad : Heaps.badRoots(n)) {
                Checks.refused("put(" + bad + ", 1, 9)", x, () -> x.put(bad, 1, 9), -1);
            }
            Checks.due("put(0, 1, 9)", x.put(0, 1, 9), 0);
            Checks.due("put(n - 1, 1, 9)", x.put(n - 1, 1, 9), 0);
        }
    }

    private static void refusesNoObject() {
        Checks.sentence("`NO_OBJECT` if the int in root i is inside no object.");
        MostlyCopying x = heap();
        Checks.refused("put(3, 0, 9) through 0", x, () -> x.put(3, 0, 9), -2);
        for (int word : new int[] {999, 1010, 1015, 1016, 1255, 1256, -1, 1 << 31, 2147483647}) {
            x.setRoot(3, word);
            Checks.refused("put(3, 0, 9) through " + word, x, () -> x.put(3, 0, 9), -2);
        }
        x.setRoot(0, 0);
        x.setRoot(1, 0);
        x.setRoot(2, 0);
        x.collect();
        x.setRoot(3, 1008);
        Checks.refused("put(3, 0, 9) to a discarded one", x, () -> x.put(3, 0, 9), -2);
    }

    private static void refusesBadFields() {
        Checks.sentence("`BAD_FIELD` if that object has no field k (k any int).");
        MostlyCopying x = heap();
        for (int k : Heaps.badFields(3)) {
            Checks.refused("put(0, " + k + ", 9)", x, () -> x.put(0, k, 9), -3);
            Checks.refused("put(1, " + k + ", 9)", x, () -> x.put(1, k, 9), -3);
        }
        for (int k : Heaps.badFields(1)) {
            Checks.refused("put(2, " + k + ", 9)", x, () -> x.put(2, k, 9), -3);
        }
    }

    private static void refusesPointerFields() {
        Checks.sentence("`WRONG_KIND` if field k is a pointer field.");
        for (int[] shape : Heaps.SHAPES) {
            MostlyCopying x = new MostlyCopying(2, 60);
            x.alloc(0, shape[0], shape[1]);
            for (int k = 0; k < shape[0]; k++) {
                int field = k;
                x.link(0, k, 0);
                Checks.refused("put(0, " + k + ", 0)", x, () -> x.put(0, field, 0), -4);
                Checks.refused("put(0, " + k + ", 1000)", x, () -> x.put(0, field, 1000), -4);
            }
            for (int k = shape[0]; k < shape[0] + shape[1]; k++) {
                Checks.due("put(0, " + k + ", 1000)", x.put(0, k, 1000), 0);
            }
        }
    }

    private static void writesAnyInt() {
        Checks.sentence("Otherwise field k of that object holds `value` (any int), and the answer "
                + "is `OK`.");
        MostlyCopying x = heap();
        for (int value : Heaps.noAddresses()) {
            Checks.due("put(0, 1, " + value + ")", x.put(0, 1, value), 0);
            Checks.due("field(1000, 1)", x.field(1000, 1), value);
            Checks.due("put(0, 2, " + ~value + ")", x.put(0, 2, ~value), 0);
            Checks.due("field(1000, 2)", x.field(1000, 2), ~value);
            Checks.due("field(1000, 1)", x.field(1000, 1), value);
        }
        for (int value = 990; value < 1270; value++) {
            Checks.due("put(2, 0, " + value + ")", x.put(2, 0, value), 0);
            Checks.due("field(1008, 0)", x.field(1008, 0), value);
        }
    }

    private static void worksFromInside() {
        Checks.sentence("The int in root i need not be the object's start; any int inside the "
                + "object will do.");
        MostlyCopying x = heap();
        for (int word = 1000; word <= 1009; word++) {
            x.setRoot(3, word);
            int start = word < 1004 ? 1000 : word < 1008 ? 1004 : 1008;
            int k = start == 1008 ? 0 : 2;
            Checks.due("put(3, " + k + ") through " + word, x.put(3, k, -word), 0);
            Checks.due("field(" + start + ", " + k + ")", x.field(start, k), -word);
            Checks.due("root(3)", x.root(3), word);
        }
    }

    private static void changesNothingElse() {
        Checks.sentence("No root, no other field, no page and no object's place changes.");
        MostlyCopying x = heap();
        x.collect();
        x.alloc(3, 1, 1);
        int[][] raws = {{0, 1}, {0, 2}, {1, 2}, {2, 0}, {3, 1}};
        for (int[] raw : raws) {
            List<Integer> before = Checks.state(x);
            int old = x.field(x.root(raw[0]), raw[1]);
            x.put(raw[0], raw[1], 1004);
            Checks.oneFieldChanges("put", x, before, x.root(raw[0]));
            x.put(raw[0], raw[1], old);
            Checks.unchanged("put and put back", x, before);
        }
    }
}
