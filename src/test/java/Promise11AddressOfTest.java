import java.util.List;

public final class Promise11AddressOfTest {
    public static void main(String[] args) {
        answersPresentObjects();
        followsMoves();
        Checks.finish();
    }

    private static void answersPresentObjects() {
        MostlyCopying x = WordReads.heap();
        List<Integer> before = Checks.state(x);
        for (int serial = -10; serial < 5000; serial++) {
            int want = 0;
            for (int[] object : WordReads.OBJECTS) {
                want = object[1] == serial ? object[0] : want;
            }
            Checks.due("addressOf(" + serial + ")", x.addressOf(serial), want);
        }
        for (int serial : new int[] {1 << 31, -4095, -4096, 65537, 2147483647}) {
            Checks.due("addressOf(" + serial + ")", x.addressOf(serial), 0);
        }
        Checks.due("addressOf(4), discarded", x.addressOf(4), 0);
        Checks.unchanged("addressOf", x, before);
    }

    private static void followsMoves() {
        MostlyCopying x = new MostlyCopying(2, 60);
        x.alloc(0, 3, 0);
        x.alloc(1, 0, 3);
        x.alloc(1, 0, 3);
        x.link(0, 0, 1);
        x.setRoot(1, 0);
        Checks.due("addressOf(3)", x.addressOf(3), 1008);
        x.collect();
        Checks.due("addressOf(3)", x.addressOf(3), 1016);
        x.collect();
        Checks.due("addressOf(3)", x.addressOf(3), 1008);
        x.link(0, 0, 1);
        x.collect();
        Checks.due("addressOf(3)", x.addressOf(3), 0);
    }
}
