public final class Promise01ConstructionTest {
    public static void main(String[] args) {
        acceptsAllInts();
        rootsAreClamped();
        capacityIsClamped();
        neitherChanges();
        beginsEmpty();
        beginsWithFreePages();
        constants();
        Checks.finish();
    }

    private static void acceptsAllInts() {
        Checks.sentence("`MostlyCopying(int roots, int capacity)` accepts all ints.");
        for (int roots : Checks.FAR_INTS) {
            for (int capacity : Checks.FAR_INTS) {
                MostlyCopying x = new MostlyCopying(roots, capacity);
                Checks.due("alloc(1, 0, 3)", x.alloc(1, 0, 3), 1000);
                Checks.due("collect()", x.collect(), 0);
            }
        }
    }

    private static int rootsOf(MostlyCopying x) {
        int accepted = 0;
        for (int i = -9; i < 20; i++) {
            accepted += x.setRoot(i, 0) == 0 ? 1 : 0;
        }
        return accepted;
    }

    private static void rootsAreClamped() {
        Checks.sentence("The number n of roots is `roots` clamped to 2 .. 8: below 2 becomes 2, "
                + "above 8 becomes 8.");
        int[][] cases = {
            {Integer.MIN_VALUE, 2}, {-8, 2}, {-1, 2}, {0, 2}, {1, 2}, {2, 2}, {3, 3}, {4, 4},
            {5, 5}, {6, 6}, {7, 7}, {8, 8}, {9, 8}, {10, 8}, {1000, 8}, {Integer.MAX_VALUE, 8}
        };
        for (int[] c : cases) {
            MostlyCopying x = new MostlyCopying(c[0], 60);
            Checks.due("number of roots for " + c[0], rootsOf(x), c[1]);
            Checks.due("setRoot(n - 1, 5)", x.setRoot(c[1] - 1, 5), 0);
            Checks.due("setRoot(n, 5)", x.setRoot(c[1], 5), -1);
        }
    }

    private static void capacityIsClamped() {
        Checks.sentence("The capacity, that is the greatest sum of the sizes of all present "
                + "objects, is `capacity` clamped to 16 .. 60: below 16 becomes 16, above 60 "
                + "becomes 60.");
        int[][] cases = {
            {Integer.MIN_VALUE, 16}, {-60, 16}, {-1, 16}, {0, 16}, {14, 16}, {15, 16}, {61, 60},
            {62, 60}, {64, 60}, {256, 60}, {Integer.MAX_VALUE, 60}
        };
        for (int[] c : cases) {
            Checks.due("words that fit for " + c[0], capacityOf(c[0]), c[1]);
        }
        for (int capacity = 16; capacity <= 60; capacity++) {
            Checks.due("words that fit for " + capacity, capacityOf(capacity), capacity);
        }
    }

    /** Filled in twos, and in twos after a three: one of them hits the capacity exactly. */
    private static int capacityOf(int capacity) {
        int even = filled(new MostlyCopying(2, capacity), 1);
        int odd = filled(new MostlyCopying(2, capacity), 2);
        return Math.max(even, odd);
    }

    private static int filled(MostlyCopying x, int rawsOfTheFirst) {
        x.alloc(0, 0, rawsOfTheFirst);
        for (int n = 0; n < 100; n++) {
            x.alloc(0, 0, 1);
        }
        return x.wordsUsed();
    }

    private static void neitherChanges() {
        Checks.sentence("Neither n nor the capacity changes afterwards.");
        for (int n = 2; n <= 8; n++) {
            MostlyCopying x = new MostlyCopying(n, 16 + n);
            for (int round = 0; round < 20; round++) {
                Checks.due("words that fit", filled(x, n % 2 == 0 ? 1 : 2), 16 + n);
                x.alloc(n, 9, 9);
                x.setRoot(n, 1000);
                x.put(-1, 0, 0);
                x.collect();
                Checks.due("number of roots", rootsOf(x), n);
                x.collect();
            }
        }
    }

    private static void beginsEmpty() {
        Checks.sentence("At first all roots hold 0, no object is present, no page is open, and the "
                + "next serial is 1.");
        for (int n = 2; n <= 8; n++) {
            MostlyCopying x = new MostlyCopying(n, 60);
            for (int i = 0; i < n; i++) {
                Checks.due("root(" + i + ")", x.root(i), 0);
            }
            for (int word = 990; word < 1270; word++) {
                Checks.due("baseOf(" + word + ")", x.baseOf(word), 0);
            }
            for (int serial = 0; serial <= 4096; serial++) {
                Checks.due("addressOf(" + serial + ")", x.addressOf(serial), 0);
            }
            Checks.due("collect()", x.collect(), 0);
            Checks.due("alloc(0, 1, 1), at the first word", x.alloc(0, 1, 1), 1000);
            Checks.due("serialAt(1000)", x.serialAt(1000), 1);
        }
    }

    private static void beginsWithFreePages() {
        Checks.sentence("So every page is free, `openAddress()` is 0 and `wordsUsed()` is 0.");
        MostlyCopying x = new MostlyCopying(8, 60);
        for (int page = 0; page < 32; page++) {
            Checks.due("pageState(" + page + ")", x.pageState(page), 0);
        }
        Checks.due("openAddress()", x.openAddress(), 0);
        Checks.due("wordsUsed()", x.wordsUsed(), 0);
    }

    private static void constants() {
        Checks.sentence("Public constants (all `int`):");
        Checks.due("ORIGIN", MostlyCopying.ORIGIN, 1000);
        Checks.due("PAGES", MostlyCopying.PAGES, 32);
        Checks.due("PAGE_WORDS", MostlyCopying.PAGE_WORDS, 8);
        Checks.due("LAST_SERIAL", MostlyCopying.LAST_SERIAL, 4095);
        Checks.due("OK", MostlyCopying.OK, 0);
        Checks.due("BAD_ROOT", MostlyCopying.BAD_ROOT, -1);
        Checks.due("NO_OBJECT", MostlyCopying.NO_OBJECT, -2);
        Checks.due("BAD_FIELD", MostlyCopying.BAD_FIELD, -3);
        Checks.due("WRONG_KIND", MostlyCopying.WRONG_KIND, -4);
        Checks.due("BAD_SHAPE", MostlyCopying.BAD_SHAPE, -5);
        Checks.due("FULL", MostlyCopying.FULL, -6);
        Checks.due("SPENT", MostlyCopying.SPENT, -7);
        Checks.due("BAD_PAGE", MostlyCopying.BAD_PAGE, -8);
        Checks.due("FREE", MostlyCopying.FREE, 0);
        Checks.due("MOBILE", MostlyCopying.MOBILE, 1);
        Checks.due("PROMOTED", MostlyCopying.PROMOTED, 2);
    }
}
