import java.util.List;

public final class Promise04PutTest {
    public static void main(String[] args) {
        writesAnyInt();
        worksFromInside();
        refuses();
        reasonsInOrder();
        Checks.finish();
    }

    private static MostlyCopying heap() {
        MostlyCopying x = new MostlyCopying(4, 60);
        x.alloc(0, 1, 2);
        x.alloc(1, 2, 1);
        x.alloc(2, 0, 1);
        return x;
    }

    private static void writesAnyInt() {
        MostlyCopying x = heap();
        for (int value : Checks.FAR_INTS) {
            Checks.due("put(0, 1, " + value + ")", x.put(0, 1, value), 0);
            Checks.due("field(1000, 1)", x.field(1000, 1), value);
            Checks.due("field(1000, 2)", x.field(1000, 2), 0);
            Checks.due("field(1000, 0)", x.field(1000, 0), 0);
            Checks.due("field(1004, 2)", x.field(1004, 2), 0);
        }
        Checks.due("put(0, 2, 1004)", x.put(0, 2, 1004), 0);
        Checks.due("field(1000, 2)", x.field(1000, 2), 1004);
        Checks.due("put(2, 0, 5)", x.put(2, 0, 5), 0);
        Checks.due("field(1008, 0)", x.field(1008, 0), 5);
    }

    private static void worksFromInside() {
        MostlyCopying x = heap();
        for (int word = 1000; word <= 1003; word++) {
            x.setRoot(3, word);
            List<Integer> before = Checks.state(x);
            Checks.due("put(3, 2, " + word + ")", x.put(3, 2, word), 0);
            Checks.due("field(1000, 2)", x.field(1000, 2), word);
            Checks.due("root(3)", x.root(3), word);
            x.put(3, 2, before.get(10 + 6 + 5));
            Checks.unchanged("put and put back", x, before);
        }
    }

    private static void refuses() {
        MostlyCopying x = heap();
        List<Integer> before = Checks.state(x);
        for (int i : new int[] {-1, 4, 8, Integer.MIN_VALUE, Integer.MAX_VALUE}) {
            Checks.due("put(" + i + ", 1, 9)", x.put(i, 1, 9), -1);
        }
        for (int k : new int[] {-1, 3, 4, Integer.MIN_VALUE, Integer.MAX_VALUE}) {
            Checks.due("put(0, " + k + ", 9)", x.put(0, k, 9), -3);
        }
        Checks.due("put(2, 1, 9)", x.put(2, 1, 9), -3);
        Checks.due("put(0, 0, 9)", x.put(0, 0, 9), -4);
        Checks.due("put(1, 1, 9)", x.put(1, 1, 9), -4);
        Checks.due("put(3, 0, 9), root 0", x.put(3, 0, 9), -2);
        Checks.unchanged("refused put", x, before);
        for (int word : new int[] {999, 1010, 1015, 1016, 1255, 1256, -1, 1 << 31, 2147483647}) {
            x.setRoot(3, word);
            Checks.due("put through " + word, x.put(3, 0, 9), -2);
        }
    }

    private static void reasonsInOrder() {
        MostlyCopying x = heap();
        Checks.due("bad root before no object", x.put(4, 9, 9), -1);
        Checks.due("no object before bad field", x.put(3, 9, 9), -2);
        Checks.due("bad field before wrong kind", x.put(0, -1, 9), -3);
    }
}
