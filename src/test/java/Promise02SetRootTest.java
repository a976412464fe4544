import java.util.List;

public final class Promise02SetRootTest {
    public static void main(String[] args) {
        holdsAnyInt();
        refusesBadRoots();
        Checks.finish();
    }

    private static void holdsAnyInt() {
        MostlyCopying x = new MostlyCopying(3, 60);
        x.alloc(0, 1, 1);
        x.alloc(1, 0, 3);
        x.link(0, 0, 1);
        List<Integer> heap = Checks.heapState(x);
        for (int word : Checks.FAR_INTS) {
            Checks.due("setRoot(2, " + word + ")", x.setRoot(2, word), 0);
            Checks.due("root(2)", x.root(2), word);
            Checks.due("root(0)", x.root(0), 1000);
            Checks.due("root(1)", x.root(1), 1003);
        }
        for (int word = 990; word < 1270; word++) {
            Checks.due("setRoot(0, " + word + ")", x.setRoot(0, word), 0);
            Checks.due("root(0)", x.root(0), word);
            Checks.due("root(1)", x.root(1), 1003);
        }
        Checks.heapUnchanged("setRoot", x, heap);
    }

    private static void refusesBadRoots() {
        MostlyCopying x = new MostlyCopying(3, 60);
        x.alloc(0, 1, 1);
        List<Integer> before = Checks.state(x);
        for (int i : new int[] {-1, 3, 4, 7, 8, Integer.MIN_VALUE, Integer.MAX_VALUE}) {
            Checks.due("setRoot(" + i + ", 77)", x.setRoot(i, 77), -1);
        }
        Checks.unchanged("refused setRoot", x, before);
    }
}
