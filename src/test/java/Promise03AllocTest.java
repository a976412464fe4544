import java.util.List;

public final class Promise03AllocTest {
    public static void main(String[] args) {
        placesInSequence();
        takesEveryShape();
        refusesBadShapes();
        refusesWhenFull();
        refusesWhenSpent();
        reasonsInOrder();
        fieldsBeginWithZero();
        takesTheLowestFreePage();
        changesNothingElse();
        Checks.finish();
    }

    private static void placesInSequence() {
        MostlyCopying x = new MostlyCopying(2, 60);
        Checks.due("alloc(0, 1, 1)", x.alloc(0, 1, 1), 1000);
        Checks.due("root(0)", x.root(0), 1000);
        Checks.due("alloc(1, 1, 1)", x.alloc(1, 1, 1), 1003);
        Checks.due("alloc, exactly full page", x.alloc(1, 0, 1), 1006);
        Checks.due("alloc(1, 3, 0)", x.alloc(1, 3, 0), 1008);
        Checks.due("alloc(1, 0, 2)", x.alloc(1, 0, 2), 1012);
        Checks.due("alloc that does not fit", x.alloc(1, 0, 1), 1016);
        Checks.due("pageState(2)", x.pageState(2), 1);
        for (int serial = 1; serial <= 6; serial++) {
            Checks.that("serial " + serial + " is given", x.addressOf(serial) != 0);
        }
        Checks.due("serialAt(1016)", x.serialAt(1016), 6);
    }

    private static void takesEveryShape() {
        for (int p = 0; p <= 3; p++) {
            for (int r = 0; r <= 3 - p; r++) {
                MostlyCopying x = new MostlyCopying(2, 60);
                int want = p + r == 0 ? -5 : 1000;
                Checks.due("alloc(0, " + p + ", " + r + ")", x.alloc(0, p, r), want);
                Checks.due("shapeAt(1000)", x.shapeAt(1000), 4 * p + r);
                Checks.due("wordsUsed()", x.wordsUsed(), p + r == 0 ? 0 : 1 + p + r);
            }
        }
    }

    private static void refusesBadShapes() {
        MostlyCopying x = new MostlyCopying(2, 60);
        x.alloc(0, 1, 1);
        List<Integer> before = Checks.state(x);
        int min = Integer.MIN_VALUE;
        int max = Integer.MAX_VALUE;
        int[][] shapes = {
            {0, 0}, {-1, 2}, {2, -1}, {4, 0}, {0, 4}, {4, -1}, {-1, 4}, {2, 2}, {3, 1}, {1, 3},
            {3, 3}, {max, max}, {max, min}, {min, min}, {max, -max + 1}, {min, min + 2}, {-3, 5}
        };
        for (int[] s : shapes) {
            Checks.due("alloc(0, " + s[0] + ", " + s[1] + ")", x.alloc(0, s[0], s[1]), -5);
        }
        Checks.unchanged("refused alloc", x, before);
        Checks.due("alloc(0, 0, 1)", x.alloc(0, 0, 1), 1003);
        Checks.due("serialAt(1003), no serial used up", x.serialAt(1003), 2);
    }

    private static void refusesWhenFull() {
        MostlyCopying x = new MostlyCopying(2, 17);
        for (int n = 0; n < 3; n++) {
            x.alloc(0, 0, 3);
        }
        x.alloc(0, 0, 2);
        x.setRoot(0, 0);
        List<Integer> before = Checks.state(x);
        Checks.due("alloc above the capacity", x.alloc(0, 1, 1), -6);
        Checks.unchanged("refused alloc", x, before);
        Checks.due("alloc to the capacity", x.alloc(0, 1, 0), 1016);
        Checks.due("serialAt(1016), no serial used up", x.serialAt(1016), 5);
        Checks.due("wordsUsed()", x.wordsUsed(), 17);
        Checks.due("alloc at the capacity", x.alloc(0, 1, 0), -6);
        Checks.due("collect()", x.collect(), 4);
        Checks.due("alloc after collect", x.alloc(0, 1, 0), 1000);
    }

    private static void refusesWhenSpent() {
        MostlyCopying x = new MostlyCopying(2, 16);
        for (int serial = 1; serial <= 4095; serial++) {
            int start = x.alloc(0, 0, 3);
            if (start == -6) {
                x.collect();
                start = x.alloc(0, 0, 3);
            }
            Checks.due("serialAt(" + start + ")", x.serialAt(start), serial);
        }
        x.setRoot(0, 0);
        x.setRoot(1, x.addressOf(4095));
        x.collect();
        List<Integer> before = Checks.state(x);
        Checks.due("alloc of object 4096", x.alloc(0, 0, 1), -7);
        Checks.due("alloc with a bad root", x.alloc(2, 0, 1), -1);
        Checks.due("alloc with a bad shape", x.alloc(0, 0, 4), -5);
        Checks.unchanged("refused alloc", x, before);
        x.setRoot(1, 0);
        x.collect();
        Checks.due("alloc on an empty heap", x.alloc(0, 0, 1), -7);
    }

    /** A heap of capacity 16 whose serials are all given, with `last` objects of `raws` on it. */
    private static MostlyCopying spent(int last, int raws) {
        MostlyCopying x = new MostlyCopying(2, 16);
        for (int made = 0; made < 4095; made++) {
            if ((4095 - made) % last == 0) {
                x.setRoot(0, 0);
                x.collect();
            }
            x.alloc(0, 0, raws);
        }
        return x;
    }

    private static void reasonsInOrder() {
        MostlyCopying x = spent(3, 3);
        Checks.due("wordsUsed()", x.wordsUsed(), 12);
        Checks.due("addressOf(4095), the last object", x.addressOf(4095), 1008);
        Checks.due("spent, and exactly to the capacity", x.alloc(0, 0, 3), -7);
        MostlyCopying both = spent(5, 2);
        Checks.due("wordsUsed()", both.wordsUsed(), 15);
        Checks.due("full before spent", both.alloc(0, 0, 1), -6);
        Checks.due("bad shape before full", both.alloc(0, 0, 0), -5);
        Checks.due("bad root before bad shape", both.alloc(-1, 0, 0), -1);
    }

    private static void fieldsBeginWithZero() {
        MostlyCopying x = new MostlyCopying(2, 60);
        x.alloc(0, 1, 2);
        x.link(0, 0, 0);
        x.put(0, 1, 55);
        x.put(0, 2, 66);
        x.setRoot(0, 0);
        x.collect();
        Checks.due("alloc on used words", x.alloc(0, 1, 2), 1000);
        for (int k = 0; k < 3; k++) {
            Checks.due("field(1000, " + k + ")", x.field(1000, k), 0);
        }
    }

    private static void takesTheLowestFreePage() {
        MostlyCopying x = new MostlyCopying(3, 60);
        x.alloc(0, 0, 3);
        x.alloc(0, 0, 3);
        x.alloc(1, 0, 3);
        x.alloc(1, 0, 3);
        x.alloc(2, 0, 3);
        x.alloc(2, 0, 3);
        x.setRoot(0, 0);
        Checks.due("collect()", x.collect(), 2);
        Checks.due("openAddress()", x.openAddress(), 0);
        Checks.due("alloc takes page 0", x.alloc(0, 0, 3), 1000);
        Checks.due("alloc on page 0", x.alloc(0, 0, 3), 1004);
        Checks.due("alloc jumps over pages 1 and 2", x.alloc(0, 0, 3), 1024);
        Checks.due("pageState(0)", x.pageState(0), 1);
        Checks.due("pageState(1)", x.pageState(1), 2);
        Checks.due("pageState(3)", x.pageState(3), 1);
    }

    private static void changesNothingElse() {
        MostlyCopying x = new MostlyCopying(3, 60);
        x.alloc(0, 1, 2);
        x.put(0, 1, 11);
        x.link(0, 0, 0);
        x.setRoot(1, 1002);
        x.setRoot(2, -9);
        Checks.due("alloc(2, 0, 1), whatever root 2 held", x.alloc(2, 0, 1), 1004);
        Checks.due("root(0)", x.root(0), 1000);
        Checks.due("root(1)", x.root(1), 1002);
        Checks.due("field(1000, 0)", x.field(1000, 0), 1000);
        Checks.due("field(1000, 1)", x.field(1000, 1), 11);
        x.setRoot(2, 0);
        x.alloc(2, 0, 2);
        Checks.due("addressOf(2): alloc never collects", x.addressOf(2), 1004);
    }
}
