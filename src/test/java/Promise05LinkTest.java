import java.util.List;

public final class Promise05LinkTest {
    public static void main(String[] args) {
        refusesBadRoots();
        refusesNoObject();
        refusesBadFields();
        refusesRawFields();
        refusesNoTarget();
        writesStartsAndNull();
        linksToItself();
        changesNothingElse();
        Checks.finish();
    }

    /** Three objects in sequence on roots 0 to 2; root 3 is left to the tests. */
    private static MostlyCopying heap() {
        MostlyCopying x = new MostlyCopying(4, 60);
        x.alloc(0, 2, 1);
        x.alloc(1, 1, 2);
        x.alloc(2, 0, 1);
        x.link(0, 0, 1);
        x.put(0, 2, 33);
        return x;
    }

    private static void refusesBadRoots() {
        Checks.sentence("`BAD_ROOT` if i or j is bad.");
        for (int n = 2; n <= 8; n++) {
            MostlyCopying x = new MostlyCopying(n, 60);
            x.alloc(0, 1, 2);
            x.alloc(n - 1, 1, 2);
            for (int bad : Heaps.badRoots(n)) {
                Checks.refused("link(" + bad + ", 0, 1)", x, () -> x.link(bad, 0, 1), -1);
                Checks.refused("link(0, 0, " + bad + ")", x, () -> x.link(0, 0, bad), -1);
                Checks.refused("link with two bad", x, () -> x.link(bad, 0, bad), -1);
            }
            Checks.due("link(0, 0, n - 1)", x.link(0, 0, n - 1), 0);
            Checks.due("link(n - 1, 0, 0)", x.link(n - 1, 0, 0), 0);
        }
    }

    private static void refusesNoObject() {
        Checks.sentence("`NO_OBJECT` if the int in root i is inside no object.");
        MostlyCopying x = heap();
        Checks.refused("link(3, 0, 1) through 0", x, () -> x.link(3, 0, 1), -2);
        Checks.refused("link(3, 0, 3) through 0", x, () -> x.link(3, 0, 3), -2);
        for (int word : new int[] {999, 1010, 1015, 1016, 1255, 1256, -1, 1 << 31, 2147483647}) {
            x.setRoot(3, word);
            Checks.refused("link(3, 0, 1) through " + word, x, () -> x.link(3, 0, 1), -2);
        }
    }

    private static void refusesBadFields() {
        Checks.sentence("`BAD_FIELD` if that object has no field k (k any int).");
        MostlyCopying x = heap();
        for (int k : Heaps.badFields(3)) {
            Checks.refused("link(0, " + k + ", 1)", x, () -> x.link(0, k, 1), -3);
            Checks.refused("link(1, " + k + ", 3), null", x, () -> x.link(1, k, 3), -3);
        }
        for (int k : Heaps.badFields(1)) {
            Checks.refused("link(2, " + k + ", 1)", x, () -> x.link(2, k, 1), -3);
        }
    }

    private static void refusesRawFields() {
        Checks.sentence("`WRONG_KIND` if field k is a raw field.");
        for (int[] shape : Heaps.SHAPES) {
            MostlyCopying x = new MostlyCopying(2, 60);
            x.alloc(0, shape[0], shape[1]);
            for (int k = shape[0]; k < shape[0] + shape[1]; k++) {
                int field = k;
                x.put(0, k, 77);
                Checks.refused("link(0, " + k + ", 0)", x, () -> x.link(0, field, 0), -4);
                Checks.refused("link(0, " + k + ", 1), null", x, () -> x.link(0, field, 1), -4);
            }
            for (int k = 0; k < shape[0]; k++) {
                Checks.due("link(0, " + k + ", 0)", x.link(0, k, 0), 0);
                Checks.due("link(0, " + k + ", 1), null", x.link(0, k, 1), 0);
            }
        }
    }

    private static void refusesNoTarget() {
        Checks.sentence("`NO_OBJECT` if the int in root j is neither 0 nor inside an object.");
        MostlyCopying x = heap();
        for (int word : Heaps.noAddresses()) {
            if (word != 0) {
                x.setRoot(3, word);
                Checks.refused("link(0, 0, 3) to " + word, x, () -> x.link(0, 0, 3), -2);
            }
        }
        for (int word : new int[] {1010, 1015, 1016, 1255}) {
            x.setRoot(3, word);
            Checks.refused("link(0, 0, 3) to " + word, x, () -> x.link(0, 0, 3), -2);
        }
        x.setRoot(3, 0);
        Checks.due("link(0, 0, 3) to 0", x.link(0, 0, 3), 0);
    }

    private static void writesStartsAndNull() {
        Checks.sentence("Otherwise field k of root i's object holds 0 if root j holds 0, else the "
                + "start of the object that root j's int is inside, even when that int is not "
                + "itself the start.");
        MostlyCopying x = heap();
        for (int word = 1000; word <= 1009; word++) {
            for (int from = 1000; from <= 1003; from++) {
                x.setRoot(0, from);
                x.setRoot(3, word);
                int start = word < 1004 ? 1000 : word < 1008 ? 1004 : 1008;
                Checks.due("link(0, 1, 3) to " + word, x.link(0, 1, 3), 0);
                Checks.due("field(1000, 1)", x.field(1000, 1), start);
                x.setRoot(3, 0);
                Checks.due("link(0, 1, 3) to 0", x.link(0, 1, 3), 0);
                Checks.due("field(1000, 1)", x.field(1000, 1), 0);
            }
        }
    }

    private static void linksToItself() {
        Checks.sentence("i and j may be equal; the field then holds the start of its own object.");
        for (int word = 1004; word <= 1007; word++) {
            MostlyCopying x = heap();
            x.setRoot(1, word);
            Checks.due("link(1, 0, 1)", x.link(1, 0, 1), 0);
            Checks.due("field(1004, 0)", x.field(1004, 0), 1004);
            Checks.due("root(1)", x.root(1), word);
        }
    }

    private static void changesNothingElse() {
        Checks.sentence("Root j itself does not change, nor does any other root, any other field, "
                + "any page or any object's place.");
        MostlyCopying x = heap();
        x.collect();
        x.alloc(3, 1, 1);
        x.setRoot(2, 1009);
        int[][] pointers = {{0, 0}, {0, 1}, {1, 0}, {3, 0}};
        for (int[] pointer : pointers) {
            int oldTarget = x.field(x.root(pointer[0]), pointer[1]);
            List<Integer> before = Checks.state(x);
            x.link(pointer[0], pointer[1], 2);
            Checks.oneFieldChanges("link", x, before, x.root(pointer[0]));
            Checks.rootsUnchanged("link", x, before.subList(0, 10));
            x.setRoot(2, oldTarget);
            x.link(pointer[0], pointer[1], 2);
            x.setRoot(2, 1009);
            Checks.unchanged("link and link back", x, before);
        }
    }
}
