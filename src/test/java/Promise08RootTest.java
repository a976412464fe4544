import java.util.List;

public final class Promise08RootTest {
    public static void main(String[] args) {
        for (int n = 2; n <= 8; n++) {
            answers(n);
        }
        Checks.finish();
    }

    private static void answers(int n) {
        Checks.sentence("`root(i)` answers the int in root i; 0 if i is bad.");
        MostlyCopying x = new MostlyCopying(n, 60);
        for (int i = 0; i < n; i++) {
            Checks.due("root(" + i + "), not set yet", x.root(i), 0);
            x.setRoot(i, -100 - i);
        }
        List<Integer> before = Checks.state(x);
        for (int i = 0; i < n; i++) {
            Checks.due("root(" + i + ")", x.root(i), -100 - i);
        }
        for (int bad : Heaps.badRoots(n)) {
            Checks.due("root(" + bad + ")", x.root(bad), 0);
        }
        Checks.unchanged("root", x, before);
    }
}
