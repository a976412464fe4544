import java.util.List;

public final class Promise06LoadTest {
    public static void main(String[] args) {
        readsBothKinds();
        intoItsOwnRoot();
        refuses();
        Checks.finish();
    }

    private static MostlyCopying heap() {
        MostlyCopying x = new MostlyCopying(4, 60);
        x.alloc(0, 1, 2);
        x.alloc(1, 1, 0);
        x.link(0, 0, 1);
        x.put(0, 1, -2);
        x.put(0, 2, 1005);
        return x;
    }

    private static void readsBothKinds() {
        MostlyCopying x = heap();
        List<Integer> heap = Checks.heapState(x);
        for (int word = 1000; word <= 1003; word++) {
            x.setRoot(0, word);
            Checks.due("load(2, 0, 0)", x.load(2, 0, 0), 0);
            Checks.due("root(2)", x.root(2), 1004);
            Checks.due("load(2, 0, 1), the content -2 is no refusal", x.load(2, 0, 1), 0);
            Checks.due("root(2)", x.root(2), -2);
            Checks.due("load(2, 0, 2)", x.load(2, 0, 2), 0);
            Checks.due("root(2)", x.root(2), 1005);
            Checks.due("load(2, 1, 0), null", x.load(2, 1, 0), 0);
            Checks.due("root(2)", x.root(2), 0);
            Checks.due("root(0)", x.root(0), word);
            Checks.due("root(1)", x.root(1), 1004);
            Checks.due("root(3)", x.root(3), 0);
        }
        Checks.heapUnchanged("load", x, heap);
    }

    private static void intoItsOwnRoot() {
        MostlyCopying x = heap();
        Checks.due("load(0, 0, 0)", x.load(0, 0, 0), 0);
        Checks.due("root(0)", x.root(0), 1004);
        Checks.due("load(0, 0, 0)", x.load(0, 0, 0), 0);
        Checks.due("root(0)", x.root(0), 0);
        Checks.due("load(0, 0, 0)", x.load(0, 0, 0), -2);
    }

    private static void refuses() {
        MostlyCopying x = heap();
        List<Integer> before = Checks.state(x);
        for (int bad : new int[] {-1, 4, 8, Integer.MIN_VALUE, Integer.MAX_VALUE}) {
            Checks.due("load(" + bad + ", 0, 0)", x.load(bad, 0, 0), -1);
            Checks.due("load(0, " + bad + ", 0)", x.load(0, bad, 0), -1);
            Checks.due("bad root before no object", x.load(bad, 3, 9), -1);
        }
        Checks.due("load(0, 3, 0)", x.load(0, 3, 0), -2);
        Checks.due("no object before bad field", x.load(0, 3, 9), -2);
        for (int k : new int[] {-1, 3, 4, Integer.MIN_VALUE, Integer.MAX_VALUE}) {
            Checks.due("load(2, 0, " + k + ")", x.load(2, 0, k), -3);
        }
        Checks.due("load(2, 1, 1)", x.load(2, 1, 1), -3);
        Checks.unchanged("refused load", x, before);
        for (int word : new int[] {999, 1006, 1007, 1008, 1255, 1256, -1, 1 << 31}) {
            x.setRoot(3, word);
            Checks.due("load through " + word, x.load(2, 3, 0), -2);
        }
    }
}
