public final class Promise08RootTest {
    public static void main(String[] args) {
        answers();
        WordReads.changeNothing("root", x -> {
            for (int i = -3; i < 20; i++) {
                x.root(i);
            }
        });
        Checks.finish();
    }

    private static void answers() {
        Checks.sentence("`root(i)` answers the int in root i; 0 if i is bad.");
        for (int n = 2; n <= 8; n++) {
            MostlyCopying x = new MostlyCopying(n, 60);
            for (int i = 0; i < n; i++) {
                Checks.due("root(" + i + "), not set yet", x.root(i), 0);
                x.setRoot(i, -100 - i);
            }
            for (int i = 0; i < n; i++) {
                Checks.due("root(" + i + ")", x.root(i), -100 - i);
            }
            for (int bad : Heaps.badRoots(n)) {
                Checks.due("root(" + bad + ")", x.root(bad), 0);
            }
        }
    }
}
