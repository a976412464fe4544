import java.util.List;

public final class Promise15OpenAddressTest {
    public static void main(String[] args) {
        MostlyCopying x = new MostlyCopying(2, 60);
        Checks.due("openAddress() at first", x.openAddress(), 0);
        x.alloc(0, 0, 3);
        Checks.due("openAddress()", x.openAddress(), 1004);
        x.alloc(0, 0, 2);
        List<Integer> before = Checks.state(x);
        Checks.due("openAddress() with one word left", x.openAddress(), 1007);
        Checks.unchanged("openAddress", x, before);
        x.alloc(0, 0, 1);
        Checks.due("openAddress() on the next page", x.openAddress(), 1010);
        x.alloc(0, 0, 2);
        x.alloc(0, 0, 2);
        Checks.due("openAddress() of a full page", x.openAddress(), 0);
        x.alloc(1, 1, 1);
        Checks.due("openAddress() on the third page", x.openAddress(), 1019);
        x.link(1, 0, 0);
        x.setRoot(0, 0);
        Checks.due("refused alloc", x.alloc(0, 0, 0), -5);
        Checks.due("openAddress()", x.openAddress(), 1019);
        x.collect();
        Checks.due("openAddress() after the last moved object", x.openAddress(), 1027);
        x.setRoot(0, 1024);
        x.collect();
        Checks.due("openAddress() when nothing moved", x.openAddress(), 0);
        Checks.due("alloc(0, 0, 1)", x.alloc(0, 0, 1), 1000);
        Checks.due("openAddress()", x.openAddress(), 1002);
        x.setRoot(0, 0);
        x.setRoot(1, 0);
        x.collect();
        Checks.due("openAddress() of an empty heap", x.openAddress(), 0);
        Checks.finish();
    }
}
