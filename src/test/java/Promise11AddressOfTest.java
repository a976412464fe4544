public final class Promise11AddressOfTest {
    public static void main(String[] args) {
        answersPresentObjects();
        followsMoves();
        answersZeroForOthers();
        WordReads.changeNothing("addressOf", x -> {
            for (int serial = -10; serial < 5000; serial++) {
                x.addressOf(serial);
            }
        });
        Checks.finish();
    }

    private static void answersPresentObjects() {
        Checks.sentence("`addressOf(serial)` answers the current start of the present object with "
                + "that serial; 0 if there is none.");
        MostlyCopying x = WordReads.heap();
        for (int serial = -10; serial < 5000; serial++) {
            int want = 0;
            for (int[] object : WordReads.OBJECTS) {
                want = object[1] == serial ? object[0] : want;
            }
            Checks.due("addressOf(" + serial + ")", x.addressOf(serial), want);
        }
    }

    private static void followsMoves() {
        MostlyCopying x = new MostlyCopying(2, 60);
        x.alloc(0, 3, 0);
        x.alloc(1, 0, 3);
        x.alloc(1, 0, 3);
        x.link(0, 0, 1);
        x.setRoot(1, 0);
        Checks.due("addressOf(3)", x.addressOf(3), 1008);
        x.collect();
        Checks.due("addressOf(3), moved", x.addressOf(3), 1016);
        x.collect();
        Checks.due("addressOf(3), moved back", x.addressOf(3), 1008);
    }

    private static void answersZeroForOthers() {
        Checks.sentence("So 0 is answered for 0, for negative ints, for serials not given yet and "
                + "for serials of discarded objects.");
        MostlyCopying x = new MostlyCopying(2, 16);
        for (int n = 0; n < 4; n++) {
            x.alloc(0, 0, 3);
        }
        for (int serial : new int[] {0, -1, -2, -3, -4, -4095, -4096, -65535, 1 << 31}) {
            Checks.due("addressOf(" + serial + ")", x.addressOf(serial), 0);
        }
        for (int serial : new int[] {5, 6, 255, 4095, 4096, 4097, 65537, 2147483647}) {
            Checks.due("addressOf(" + serial + ")", x.addressOf(serial), 0);
        }
        for (int bit = 3; bit < 32; bit++) {
            for (int serial = 1; serial <= 4; serial++) {
                int far = serial + (1 << bit);
                Checks.due("addressOf(" + far + ")", x.addressOf(far), 0);
            }
        }
        x.collect();
        Checks.due("addressOf(1), discarded", x.addressOf(1), 0);
        Checks.due("addressOf(2), discarded", x.addressOf(2), 0);
        Checks.due("addressOf(3)", x.addressOf(3), 1008);
        Checks.due("addressOf(4)", x.addressOf(4), 1012);
        x.alloc(1, 0, 3);
        Checks.due("addressOf(1), its words are another's", x.addressOf(1), 0);
        Checks.due("addressOf(5)", x.addressOf(5), 1000);
        MostlyCopying spent = Heaps.spent(3, 3);
        Checks.due("addressOf(4092), discarded", spent.addressOf(4092), 0);
        Checks.due("addressOf(4095), the last", spent.addressOf(4095), 1008);
        Checks.due("addressOf(4096), never given", spent.addressOf(4096), 0);
    }
}
