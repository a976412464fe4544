import java.util.List;

public final class Promise14PageStateTest {
    public static void main(String[] args) {
        badPages();
        statesOverCollections();
        Checks.finish();
    }

    private static void badPages() {
        MostlyCopying x = WordReads.heap();
        List<Integer> before = Checks.state(x);
        for (int page : new int[] {-1, -2, 32, 33, 1000, 1255, 1 << 31, 2147483647}) {
            Checks.due("pageState(" + page + ")", x.pageState(page), -8);
        }
        for (int page = 0; page < 32; page++) {
            int want = page == 1 ? 1 : page <= 3 ? 2 : 0;
            Checks.due("pageState(" + page + ")", x.pageState(page), want);
        }
        Checks.unchanged("pageState", x, before);
    }

    private static void statesOverCollections() {
        MostlyCopying x = new MostlyCopying(3, 60);
        Checks.due("pageState(0)", x.pageState(0), 0);
        x.alloc(0, 1, 2);
        x.alloc(1, 0, 3);
        x.alloc(1, 0, 3);
        x.link(0, 0, 1);
        Checks.due("pageState(0), before the first collect", x.pageState(0), 1);
        Checks.due("pageState(1), before the first collect", x.pageState(1), 1);
        x.setRoot(1, 0);
        x.collect();
        Checks.due("pageState(0), pinned", x.pageState(0), 2);
        Checks.due("pageState(1), left", x.pageState(1), 0);
        Checks.due("pageState(2), taken", x.pageState(2), 1);
        x.setRoot(0, 0);
        x.setRoot(1, 1016);
        x.setRoot(2, 1003);
        Checks.due("pageState(2), roots alone change no state", x.pageState(2), 1);
        x.collect();
        Checks.due("pageState(0), pinned again", x.pageState(0), 2);
        Checks.due("pageState(2), pinned later", x.pageState(2), 2);
        x.setRoot(2, 0);
        Checks.due("pageState(0), still promoted", x.pageState(0), 2);
        x.collect();
        Checks.due("pageState(0), not pinned any more", x.pageState(0), 0);
        Checks.due("pageState(2)", x.pageState(2), 2);
        Checks.due("alloc(0, 0, 1)", x.alloc(0, 0, 1), 1000);
        Checks.due("pageState(0), was promoted before its latest use", x.pageState(0), 1);
        Checks.due("pageState(31)", x.pageState(31), 0);
    }
}
