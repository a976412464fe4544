import java.util.List;

public final class Promise08RootTest {
    public static void main(String[] args) {
        for (int n = 2; n <= 8; n++) {
            MostlyCopying x = new MostlyCopying(n, 60);
            for (int i = 0; i < n; i++) {
                x.setRoot(i, -100 - i);
            }
            List<Integer> before = Checks.state(x);
            for (int i = 0; i < n; i++) {
                Checks.due("root(" + i + ")", x.root(i), -100 - i);
            }
            for (int bad : new int[] {-1, -2, n, n + 1, 8, 9, 1 << 31, 2147483647}) {
                Checks.due("root(" + bad + ")", x.root(bad), 0);
            }
            Checks.unchanged("root", x, before);
        }
        Checks.finish();
    }
}
