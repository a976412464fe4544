import java.util.List;

public final class Promise07CollectTest {
    public static void main(String[] args) {
        keepsWholePinnedPages();
        unusedWordsPinNothing();
        rawFieldsPinNothing();
        lastWordOfAnObjectPins();
        movesInListOrder();
        listIsBreadthFirst();
        keepsCyclesAndSharing();
        adjustsPointersOnly();
        takesOnlyPagesFreeBefore();
        closesTheOpenPage();
        leavesAStaleRootAlone();
        neverGivesASerialAgain();
        emptiesTheHeap();
        stepsThroughTheHeapForLong();
        Checks.finish();
    }

    private static void keepsWholePinnedPages() {
        MostlyCopying x = new MostlyCopying(2, 60);
        x.alloc(0, 1, 1);
        x.alloc(1, 0, 1);
        x.alloc(0, 0, 2);
        x.alloc(0, 0, 3);
        x.setRoot(0, 0);
        List<Integer> roots = Checks.state(x).subList(0, 10);
        Checks.due("collect()", x.collect(), 1);
        Checks.due("addressOf(1), in no use but on a pinned page", x.addressOf(1), 1000);
        Checks.due("addressOf(2)", x.addressOf(2), 1003);
        Checks.due("addressOf(3), in no use but on a pinned page", x.addressOf(3), 1005);
        Checks.due("addressOf(4)", x.addressOf(4), 0);
        Checks.due("pageState(0)", x.pageState(0), 2);
        Checks.due("pageState(1)", x.pageState(1), 0);
        Checks.due("wordsUsed()", x.wordsUsed(), 8);
        Checks.that("roots stay", Checks.state(x).subList(0, 10).equals(roots));
    }

    private static void unusedWordsPinNothing() {
        int[] words = {999, 1003, 1007, 1008, 1255, 1256, -1, Integer.MIN_VALUE, 2147483647};
        for (int word : words) {
            MostlyCopying x = new MostlyCopying(2, 60);
            x.alloc(0, 1, 1);
            x.setRoot(0, word);
            Checks.due("collect() with root " + word, x.collect(), 1);
            Checks.due("root(0)", x.root(0), word);
            Checks.due("pageState(0)", x.pageState(0), 0);
        }
    }

    private static void rawFieldsPinNothing() {
        MostlyCopying x = new MostlyCopying(2, 60);
        x.alloc(0, 0, 3);
        x.alloc(0, 0, 3);
        x.alloc(1, 1, 2);
        x.put(1, 1, 1000);
        x.put(1, 2, 1005);
        x.setRoot(0, 0);
        Checks.due("collect()", x.collect(), 2);
        Checks.due("field(1008, 1)", x.field(1008, 1), 1000);
        Checks.due("field(1008, 2)", x.field(1008, 2), 1005);
    }

    private static void lastWordOfAnObjectPins() {
        for (int word = 1000; word <= 1003; word++) {
            MostlyCopying x = new MostlyCopying(2, 60);
            x.alloc(0, 0, 3);
            x.setRoot(0, word);
            Checks.due("collect() with root " + word, x.collect(), 0);
            Checks.due("addressOf(1)", x.addressOf(1), 1000);
            Checks.due("pageState(0)", x.pageState(0), 2);
        }
        MostlyCopying y = new MostlyCopying(8, 60);
        y.alloc(0, 0, 1);
        y.setRoot(0, 0);
        y.setRoot(7, 1001);
        Checks.due("collect(), the last root pins too", y.collect(), 0);
    }

    private static void movesInListOrder() {
        MostlyCopying x = new MostlyCopying(5, 60);
        x.alloc(0, 3, 0);
        x.alloc(1, 0, 3);
        x.alloc(1, 0, 3);
        x.alloc(2, 0, 2);
        x.alloc(3, 0, 1);
        x.link(0, 0, 3);
        x.link(0, 1, 1);
        x.link(0, 2, 2);
        x.setRoot(1, 0);
        x.setRoot(2, 0);
        x.setRoot(3, 0);
        Checks.due("pageState(2)", x.pageState(2), 1);
        Checks.due("collect()", x.collect(), 0);
        Checks.due("addressOf(5)", x.addressOf(5), 1024);
        Checks.due("addressOf(3)", x.addressOf(3), 1026);
        Checks.due("addressOf(4)", x.addressOf(4), 1032);
        Checks.due("field(1000, 0)", x.field(1000, 0), 1024);
        Checks.due("field(1000, 1)", x.field(1000, 1), 1026);
        Checks.due("field(1000, 2)", x.field(1000, 2), 1032);
        Checks.due("openAddress()", x.openAddress(), 1035);
        Checks.due("pageState(1)", x.pageState(1), 0);
        Checks.due("pageState(2)", x.pageState(2), 0);
        Checks.due("pageState(3)", x.pageState(3), 1);
        Checks.due("pageState(4)", x.pageState(4), 1);
        Checks.due("alloc goes on after the last moved", x.alloc(1, 0, 2), 1035);
    }

    /** 1 points to 3 and 4, 3 to 5, 4 to 6: they move as 3 4 5 6, depth first it were 3 5 4 6. */
    private static void listIsBreadthFirst() {
        MostlyCopying x = new MostlyCopying(8, 60);
        x.alloc(0, 2, 1);
        x.alloc(7, 0, 3);
        for (int i = 1; i <= 4; i++) {
            x.alloc(i, 1, 1);
        }
        x.link(0, 0, 1);
        x.link(0, 1, 2);
        x.link(1, 0, 3);
        x.link(2, 0, 4);
        for (int i = 1; i <= 7; i++) {
            x.setRoot(i, 0);
        }
        Checks.due("collect()", x.collect(), 0);
        Checks.due("addressOf(3)", x.addressOf(3), 1024);
        Checks.due("addressOf(4)", x.addressOf(4), 1027);
        Checks.due("addressOf(5)", x.addressOf(5), 1032);
        Checks.due("addressOf(6)", x.addressOf(6), 1035);
    }

    private static void keepsCyclesAndSharing() {
        MostlyCopying x = new MostlyCopying(4, 60);
        x.alloc(0, 2, 1);
        x.alloc(3, 0, 3);
        x.alloc(1, 2, 0);
        x.alloc(2, 2, 0);
        x.link(0, 0, 2);
        x.link(0, 1, 2);
        x.link(2, 0, 1);
        x.link(2, 1, 2);
        x.link(1, 0, 2);
        x.link(1, 1, 0);
        x.setRoot(1, 0);
        x.setRoot(2, 0);
        x.setRoot(3, 0);
        Checks.due("collect()", x.collect(), 0);
        Checks.due("addressOf(4)", x.addressOf(4), 1016);
        Checks.due("addressOf(3)", x.addressOf(3), 1019);
        Checks.due("field(1000, 0)", x.field(1000, 0), 1016);
        Checks.due("field(1000, 1)", x.field(1000, 1), 1016);
        Checks.due("field(1016, 0)", x.field(1016, 0), 1019);
        Checks.due("field(1016, 1)", x.field(1016, 1), 1016);
        Checks.due("field(1019, 0)", x.field(1019, 0), 1016);
        Checks.due("field(1019, 1)", x.field(1019, 1), 1000);
        Checks.due("wordsUsed()", x.wordsUsed(), 14);
    }

    private static void adjustsPointersOnly() {
        MostlyCopying x = new MostlyCopying(3, 60);
        x.alloc(0, 1, 2);
        x.alloc(2, 0, 3);
        x.alloc(1, 1, 2);
        x.link(0, 0, 1);
        x.put(0, 1, 1008);
        x.put(0, 2, 1009);
        x.put(1, 1, 1008);
        x.put(1, 2, 1000);
        x.setRoot(1, 0);
        x.setRoot(2, 1012);
        Checks.due("collect()", x.collect(), 0);
        Checks.due("field(1000, 0)", x.field(1000, 0), 1016);
        Checks.due("field(1000, 1)", x.field(1000, 1), 1008);
        Checks.due("field(1000, 2)", x.field(1000, 2), 1009);
        Checks.due("field(1016, 0)", x.field(1016, 0), 0);
        Checks.due("field(1016, 1)", x.field(1016, 1), 1008);
        Checks.due("field(1016, 2)", x.field(1016, 2), 1000);
        Checks.due("shapeAt(1016)", x.shapeAt(1016), 6);
        Checks.due("serialAt(1016)", x.serialAt(1016), 3);
        Checks.due("root(0)", x.root(0), 1000);
        Checks.due("root(1)", x.root(1), 0);
        Checks.due("root(2)", x.root(2), 1012);
        Checks.due("baseOf(1008)", x.baseOf(1008), 0);
    }

    private static void takesOnlyPagesFreeBefore() {
        MostlyCopying x = new MostlyCopying(3, 60);
        x.alloc(1, 0, 3);
        x.alloc(1, 0, 3);
        x.alloc(0, 1, 2);
        x.link(0, 0, 1);
        x.setRoot(1, 0);
        Checks.due("collect()", x.collect(), 1);
        Checks.due("addressOf(2), page 0 was in use", x.addressOf(2), 1016);
        Checks.due("pageState(0)", x.pageState(0), 0);
        Checks.due("collect()", x.collect(), 0);
        Checks.due("addressOf(2), page 0 was free", x.addressOf(2), 1000);
        Checks.due("pageState(0)", x.pageState(0), 1);
        Checks.due("pageState(1)", x.pageState(1), 2);
        Checks.due("pageState(2)", x.pageState(2), 0);
        Checks.due("field(1008, 0)", x.field(1008, 0), 1000);
    }

    private static void closesTheOpenPage() {
        MostlyCopying x = new MostlyCopying(2, 60);
        x.alloc(0, 0, 1);
        Checks.due("openAddress()", x.openAddress(), 1002);
        Checks.due("collect()", x.collect(), 0);
        Checks.due("openAddress()", x.openAddress(), 0);
        Checks.due("alloc(1, 0, 1)", x.alloc(1, 0, 1), 1008);
        Checks.due("pageState(0)", x.pageState(0), 2);
        Checks.due("pageState(1)", x.pageState(1), 1);
    }

    private static void leavesAStaleRootAlone() {
        MostlyCopying x = new MostlyCopying(3, 60);
        x.alloc(0, 0, 3);
        x.alloc(0, 0, 3);
        x.alloc(1, 0, 3);
        x.setRoot(0, 0);
        Checks.due("collect()", x.collect(), 2);
        x.setRoot(2, 1006);
        Checks.due("baseOf(1006)", x.baseOf(1006), 0);
        Checks.due("alloc(0, 0, 2)", x.alloc(0, 0, 2), 1000);
        Checks.due("alloc(0, 0, 2)", x.alloc(0, 0, 2), 1003);
        Checks.due("alloc(0, 0, 1)", x.alloc(0, 0, 1), 1006);
        x.setRoot(0, 0);
        Checks.due("collect(), the stale root pins", x.collect(), 0);
        Checks.due("pageState(0)", x.pageState(0), 2);
        Checks.due("serialAt(1006)", x.serialAt(1006), 6);
    }

    private static void neverGivesASerialAgain() {
        MostlyCopying x = new MostlyCopying(2, 60);
        for (int serial = 1; serial < 50; serial++) {
            x.alloc(0, 0, 1);
            Checks.due("addressOf(" + serial + ")", x.addressOf(serial), 1000);
            x.setRoot(0, 0);
            Checks.due("collect()", x.collect(), 1);
            Checks.due("addressOf(" + serial + ")", x.addressOf(serial), 0);
        }
    }

    private static void emptiesTheHeap() {
        MostlyCopying x = new MostlyCopying(2, 60);
        x.alloc(0, 1, 0);
        x.link(0, 0, 0);
        x.setRoot(0, 0);
        Checks.due("collect(), a cycle alone keeps nothing", x.collect(), 1);
        for (int seen : Checks.state(x)) {
            Checks.due("what is seen of the empty heap", seen, 0);
        }
        for (int n = 0; n < 30; n++) {
            x.alloc(0, 0, 1);
        }
        x.setRoot(0, 0);
        Checks.due("collect() of 30 objects", x.collect(), 30);
        Checks.due("collect() of none", x.collect(), 0);
    }

    /** Eight pages pinned with two words each, and a chain that moves: 14 pages in use, 20 touched. */
    private static void stepsThroughTheHeapForLong() {
        MostlyCopying x = new MostlyCopying(8, 60);
        for (int i = 0; i < 8; i++) {
            x.alloc(i, 1, 0);
            Checks.due("collect()", x.collect(), 0);
        }
        int last = x.root(6);
        for (int n = 0; n < 11; n++) {
            x.alloc(7, 1, n % 2 == 0 ? 1 : 2);
            x.setRoot(6, last);
            x.link(6, 0, 7);
            last = x.root(7);
        }
        x.setRoot(6, 1048);
        x.setRoot(7, 1056);
        int words = x.wordsUsed();
        for (int n = 0; n < 20; n++) {
            Checks.due("collect()", x.collect(), 0);
            Checks.due("wordsUsed()", x.wordsUsed(), words);
            int word = 1048;
            for (int serial = 9; serial < 20; serial++) {
                word = x.field(word, 0);
                Checks.due("serialAt(" + word + ")", x.serialAt(word), serial);
            }
        }
    }
}
