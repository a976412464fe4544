import java.util.List;

public final class Promise06LoadTest {
    public static void main(String[] args) {
        refusesBadRoots();
        refusesNoObject();
        refusesBadFields();
        answersOkWhateverTheContent();
        intoItsOwnRoot();
        changesNothingElse();
        Checks.finish();
    }

    /** Two objects in sequence on roots 0 and 1; roots 2 and 3 are left to the tests. */
    private static MostlyCopying heap() {
        MostlyCopying x = new MostlyCopying(4, 60);
        x.alloc(0, 1, 2);
        x.alloc(1, 1, 0);
        x.link(0, 0, 1);
        x.put(0, 1, -2);
        x.put(0, 2, 1005);
        return x;
    }

    private static void refusesBadRoots() {
        Checks.sentence("`BAD_ROOT` if j or i is bad.");
        for (int n = 2; n <= 8; n++) {
            MostlyCopying x = new MostlyCopying(n, 60);
            x.alloc(0, 1, 2);
            x.alloc(n - 1, 1, 2);
            x.put(0, 1, 8);
            for (int bad : Heaps.badRoots(n)) {
                Checks.refused("load(" + bad + ", 0, 1)", x, () -> x.load(bad, 0, 1), -1);
                Checks.refused("load(0, " + bad + ", 1)", x, () -> x.load(0, bad, 1), -1);
                Checks.refused("load with two bad", x, () -> x.load(bad, bad, 1), -1);
            }
            Checks.due("load(n - 1, 0, 1)", x.load(n - 1, 0, 1), 0);
            x.setRoot(n - 1, 1004);
            Checks.due("load(0, n - 1, 1)", x.load(0, n - 1, 1), 0);
        }
    }

    private static void refusesNoObject() {
        Checks.sentence("`NO_OBJECT` if the int in root i is inside no object.");
        MostlyCopying x = heap();
        Checks.refused("load(0, 3, 0) through 0", x, () -> x.load(0, 3, 0), -2);
        Checks.refused("load(3, 3, 0) through 0", x, () -> x.load(3, 3, 0), -2);
        for (int word : new int[] {999, 1006, 1007, 1008, 1255, 1256, -1, 1 << 31, 2147483647}) {
            x.setRoot(3, word);
            Checks.refused("load(0, 3, 0) through " + word, x, () -> x.load(0, 3, 0), -2);
        }
    }

    private static void refusesBadFields() {
        Checks.sentence("`BAD_FIELD` if that object has no field k (k any int).");
        MostlyCopying x = heap();
        for (int k : Heaps.badFields(3)) {
            Checks.refused("load(2, 0, " + k + ")", x, () -> x.load(2, 0, k), -3);
            Checks.refused("load(0, 0, " + k + ")", x, () -> x.load(0, 0, k), -3);
        }
        for (int k : Heaps.badFields(1)) {
            Checks.refused("load(0, 1, " + k + ")", x, () -> x.load(0, 1, k), -3);
        }
    }

    private static void answersOkWhateverTheContent() {
        Checks.sentence("Otherwise root j holds the content of field k of that object, be it a "
                + "pointer or a raw field, and the answer is `OK`, whatever the content is.");
        MostlyCopying x = heap();
        for (int word = 1000; word <= 1003; word++) {
            x.setRoot(0, word);
            Checks.due("load(2, 0, 0), a pointer", x.load(2, 0, 0), 0);
            Checks.due("root(2)", x.root(2), 1004);
            Checks.due("load(2, 1, 0), null", x.load(2, 1, 0), 0);
            Checks.due("root(2)", x.root(2), 0);
            for (int content : Heaps.noAddresses()) {
                x.put(0, 2, content);
                Checks.due("load(2, 0, 2) of " + content, x.load(2, 0, 2), 0);
                Checks.due("root(2)", x.root(2), content);
            }
            for (int content = -9; content < 0; content++) {
                x.put(0, 1, content);
                Checks.due("load(2, 0, 1) of " + content, x.load(2, 0, 1), 0);
                Checks.due("root(2)", x.root(2), content);
            }
        }
    }

    private static void intoItsOwnRoot() {
        Checks.sentence("j and i may be equal; the object is the one determined by root i before "
                + "the change.");
        for (int word = 1000; word <= 1003; word++) {
            MostlyCopying x = heap();
            x.setRoot(0, word);
            Checks.due("load(0, 0, 0)", x.load(0, 0, 0), 0);
            Checks.due("root(0)", x.root(0), 1004);
            Checks.due("load(0, 0, 0)", x.load(0, 0, 0), 0);
            Checks.due("root(0)", x.root(0), 0);
            Checks.due("load(0, 0, 0)", x.load(0, 0, 0), -2);
            x.setRoot(0, word);
            Checks.due("load(0, 0, 1)", x.load(0, 0, 1), 0);
            Checks.due("root(0)", x.root(0), -2);
        }
    }

    private static void changesNothingElse() {
        Checks.sentence("No other root changes, and no object, field or page changes.");
        MostlyCopying x = heap();
        x.collect();
        x.alloc(3, 1, 1);
        x.setRoot(2, -5);
        List<Integer> before = Checks.state(x);
        List<Integer> heap = Checks.heapState(x);
        for (int k = 0; k < 3; k++) {
            x.load(2, 0, k);
            Checks.heapUnchanged("load(2, 0, " + k + ")", x, heap);
            x.setRoot(2, -5);
            Checks.unchanged("load(2, 0, " + k + ") and setRoot back", x, before);
        }
    }
}
