public final class Promise01ConstructionTest {
    public static void main(String[] args) {
        rootsAreClamped();
        capacityIsClamped();
        beginsEmpty();
        constants();
        Checks.finish();
    }

    private static void rootsAreClamped() {
        int[][] cases = {
            {Integer.MIN_VALUE, 2}, {-1, 2}, {0, 2}, {1, 2}, {2, 2}, {3, 3}, {4, 4}, {5, 5},
            {6, 6}, {7, 7}, {8, 8}, {9, 8}, {1000, 8}, {Integer.MAX_VALUE, 8}
        };
        for (int[] c : cases) {
            MostlyCopying x = new MostlyCopying(c[0], 60);
            int accepted = 0;
            for (int i = -3; i < 20; i++) {
                accepted += x.setRoot(i, 5) == 0 ? 1 : 0;
            }
            Checks.due("number of roots for " + c[0], accepted, c[1]);
            Checks.due("setRoot(n - 1)", x.setRoot(c[1] - 1, 5), 0);
            Checks.due("setRoot(n)", x.setRoot(c[1], 5), -1);
        }
    }

    private static void capacityIsClamped() {
        int[][] cases = {
            {Integer.MIN_VALUE, 16}, {-1, 16}, {0, 16}, {15, 16}, {16, 16}, {17, 17}, {18, 18},
            {37, 37}, {59, 59}, {60, 60}, {61, 60}, {256, 60}, {Integer.MAX_VALUE, 60}
        };
        for (int[] c : cases) {
            // Filled in twos, and in twos after a three: one of them hits the capacity exactly.
            int even = filled(new MostlyCopying(2, c[0]), 1);
            int odd = filled(new MostlyCopying(2, c[0]), 2);
            Checks.due("even words that fit for " + c[0], even, c[1] - c[1] % 2);
            Checks.due("odd words that fit for " + c[0], odd, c[1] - (c[1] + 1) % 2);
        }
    }

    private static int filled(MostlyCopying x, int rawsOfTheFirst) {
        x.alloc(0, 0, rawsOfTheFirst);
        for (int n = 0; n < 100; n++) {
            x.alloc(0, 0, 1);
        }
        return x.wordsUsed();
    }

    private static void beginsEmpty() {
        MostlyCopying x = new MostlyCopying(8, 60);
        for (int seen : Checks.state(x)) {
            Checks.due("what is seen at the beginning", seen, 0);
        }
        Checks.due("openAddress()", x.openAddress(), 0);
        Checks.due("wordsUsed()", x.wordsUsed(), 0);
        Checks.due("collect()", x.collect(), 0);
        Checks.due("alloc(0, 1, 1)", x.alloc(0, 1, 1), 1000);
        Checks.due("serialAt(1000)", x.serialAt(1000), 1);
    }

    private static void constants() {
        Checks.due("ORIGIN", MostlyCopying.ORIGIN, 1000);
        Checks.due("PAGES", MostlyCopying.PAGES, 32);
        Checks.due("PAGE_WORDS", MostlyCopying.PAGE_WORDS, 8);
        Checks.due("LAST_SERIAL", MostlyCopying.LAST_SERIAL, 4095);
        Checks.due("OK", MostlyCopying.OK, 0);
        Checks.due("BAD_ROOT", MostlyCopying.BAD_ROOT, -1);
        Checks.due("NO_OBJECT", MostlyCopying.NO_OBJECT, -2);
        Checks.due("BAD_FIELD", MostlyCopying.BAD_FIELD, -3);
        Checks.due("WRONG_KIND", MostlyCopying.WRONG_KIND, -4);
        Checks.due("BAD_SHAPE", MostlyCopying.BAD_SHAPE, -5);
        Checks.due("FULL", MostlyCopying.FULL, -6);
        Checks.due("SPENT", MostlyCopying.SPENT, -7);
        Checks.due("BAD_PAGE", MostlyCopying.BAD_PAGE, -8);
        Checks.due("FREE", MostlyCopying.FREE, 0);
        Checks.due("MOBILE", MostlyCopying.MOBILE, 1);
        Checks.due("PROMOTED", MostlyCopying.PROMOTED, 2);
    }
}
