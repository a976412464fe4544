import java.util.List;

public final class Promise05LinkTest {
    public static void main(String[] args) {
        writesStarts();
        writesNull();
        linksToItself();
        refuses();
        reasonsInOrder();
        Checks.finish();
    }

    private static MostlyCopying heap() {
        MostlyCopying x = new MostlyCopying(4, 60);
        x.alloc(0, 2, 1);
        x.alloc(1, 1, 2);
        x.alloc(2, 0, 1);
        return x;
    }

    private static void writesStarts() {
        MostlyCopying x = heap();
        for (int word = 1004; word <= 1007; word++) {
            x.setRoot(3, word);
            x.setRoot(0, word - 4);
            Checks.due("link(0, 1, 3)", x.link(0, 1, 3), 0);
            Checks.due("field(1000, 1)", x.field(1000, 1), 1004);
            Checks.due("field(1000, 0)", x.field(1000, 0), 0);
            Checks.due("root(3)", x.root(3), word);
            Checks.due("root(0)", x.root(0), word - 4);
            Checks.due("link(0, 1, 2)", x.link(0, 1, 2), 0);
            Checks.due("field(1000, 1)", x.field(1000, 1), 1008);
        }
        Checks.due("link(0, 0, 1)", x.link(0, 0, 1), 0);
        Checks.due("field(1000, 0)", x.field(1000, 0), 1004);
        Checks.due("field(1000, 1)", x.field(1000, 1), 1008);
        Checks.due("field(1000, 2)", x.field(1000, 2), 0);
        Checks.due("field(1004, 0)", x.field(1004, 0), 0);
    }

    private static void writesNull() {
        MostlyCopying x = heap();
        List<Integer> before = Checks.state(x);
        x.link(0, 0, 1);
        Checks.due("link(0, 0, 3)", x.link(0, 0, 3), 0);
        Checks.due("field(1000, 0)", x.field(1000, 0), 0);
        Checks.unchanged("link and unlink", x, before);
    }

    private static void linksToItself() {
        MostlyCopying x = heap();
        x.setRoot(0, 1003);
        Checks.due("link(0, 1, 0)", x.link(0, 1, 0), 0);
        Checks.due("field(1000, 1)", x.field(1000, 1), 1000);
        Checks.due("root(0)", x.root(0), 1003);
    }

    private static void refuses() {
        MostlyCopying x = heap();
        x.link(0, 0, 1);
        List<Integer> before = Checks.state(x);
        for (int bad : new int[] {-1, 4, 8, Integer.MIN_VALUE, Integer.MAX_VALUE}) {
            Checks.due("link(" + bad + ", 0, 1)", x.link(bad, 0, 1), -1);
            Checks.due("link(0, 0, " + bad + ")", x.link(0, 0, bad), -1);
        }
        Checks.due("link(3, 0, 1), root 3 holds 0", x.link(3, 0, 1), -2);
        for (int k : new int[] {-1, 3, 4, Integer.MIN_VALUE, Integer.MAX_VALUE}) {
            Checks.due("link(0, " + k + ", 1)", x.link(0, k, 1), -3);
        }
        Checks.due("link(0, 2, 1)", x.link(0, 2, 1), -4);
        Checks.due("link(1, 1, 0)", x.link(1, 1, 0), -4);
        Checks.due("link(2, 0, 1)", x.link(2, 0, 1), -4);
        Checks.unchanged("refused link", x, before);
        for (int word : new int[] {1, -1, 999, 1010, 1015, 1016, 1255, 1256, 1 << 31}) {
            x.setRoot(3, word);
            Checks.due("link to " + word, x.link(0, 0, 3), -2);
            Checks.due("link from " + word, x.link(3, 0, 0), -2);
            Checks.due("field(1000, 0)", x.field(1000, 0), 1004);
        }
    }

    private static void reasonsInOrder() {
        MostlyCopying x = heap();
        x.setRoot(3, 5);
        Checks.due("bad root j before no object i", x.link(3, 9, 4), -1);
        Checks.due("no object i before bad field", x.link(3, 9, 1), -2);
        Checks.due("bad field before no object j", x.link(0, 3, 3), -3);
        Checks.due("bad field, negative", x.link(0, -1, 3), -3);
        Checks.due("wrong kind before no object j", x.link(0, 2, 3), -4);
        Checks.due("no object j", x.link(0, 1, 3), -2);
    }
}
