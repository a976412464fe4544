import java.util.List;

public final class Promise03AllocTest {
    public static void main(String[] args) {
        refusesBadRoots();
        refusesBadShapes();
        refusesWhenFull();
        reachesTheCapacity();
        countsUnreachableObjects();
        refusesWhenSpent();
        makesTheLastSerial();
        placesInSequence();
        answersTheStart();
        takesMobilePages();
        neverCollects();
        oldRootPlaysNoPart();
        changesNothingElse();
        usesUpNoSerial();
        Checks.finish();
    }

    private static void refusesBadRoots() {
        Checks.sentence("`BAD_ROOT` if i is bad.");
        for (int n = 2; n <= 8; n++) {
            MostlyCopying x = new MostlyCopying(n, 60);
            x.alloc(0, 1, 1);
            for (int bad : Heaps.badRoots(n)) {
                Checks.refused("alloc(" + bad + ", 1, 1)", x, () -> x.alloc(bad, 1, 1), -1);
            }
            Checks.due("alloc(n - 1, 1, 1)", x.alloc(n - 1, 1, 1), 1003);
        }
    }

    private static void refusesBadShapes() {
        Checks.sentence("`BAD_SHAPE` if `pointers` or `raws` is below 0 or above 3, or if their sum "
                + "is below 1 or above 3.");
        int min = Integer.MIN_VALUE;
        int max = Integer.MAX_VALUE;
        int[] counts = {
            min, min + 1, min + 2, min + 3, -4, -3, -2, -1, 0, 1, 2, 3, 4, 5, 255, 256, 257, 65536,
            max - 2, max - 1, max
        };
        for (int p : counts) {
            for (int r : counts) {
                MostlyCopying x = new MostlyCopying(2, 60);
                x.alloc(0, 1, 1);
                String call = "alloc(0, " + p + ", " + r + ")";
                if (p < 0 || p > 3 || r < 0 || r > 3 || p + r < 1 || p + r > 3) {
                    Checks.refused(call, x, () -> x.alloc(0, p, r), -5);
                } else {
                    Checks.due(call, x.alloc(0, p, r), 1003);
                }
            }
        }
    }

    /** A heap of this capacity with so many words used, from 6 on. */
    private static MostlyCopying filled(int capacity, int words) {
        MostlyCopying x = new MostlyCopying(2, capacity);
        for (int n = 0; n < 20 && words - x.wordsUsed() > 4; n++) {
            x.alloc(0, 0, words - x.wordsUsed() == 5 ? 1 : 2);
        }
        x.alloc(0, 0, words - x.wordsUsed() - 1);
        Checks.due("words used", x.wordsUsed(), words);
        return x;
    }

    private static void refusesWhenFull() {
        Checks.sentence("`FULL` if `wordsUsed()` plus the new size 1 + pointers + raws is above the "
                + "capacity.");
        for (int capacity = 16; capacity <= 60; capacity++) {
            for (int[] s : Heaps.SHAPES) {
                int size = 1 + s[0] + s[1];
                String call = "alloc(1, " + s[0] + ", " + s[1] + ") of " + capacity;
                MostlyCopying over = filled(capacity, capacity - size + 1);
                Checks.refused(call, over, () -> over.alloc(1, s[0], s[1]), -6);
                MostlyCopying full = filled(capacity, capacity);
                Checks.refused(call, full, () -> full.alloc(1, s[0], s[1]), -6);
            }
        }
    }

    private static void reachesTheCapacity() {
        Checks.sentence("Reaching the capacity exactly is allowed.");
        for (int capacity = 16; capacity <= 60; capacity++) {
            for (int[] s : Heaps.SHAPES) {
                MostlyCopying x = filled(capacity, capacity - 1 - s[0] - s[1]);
                Checks.that("alloc to " + capacity + " exactly", x.alloc(1, s[0], s[1]) >= 1000);
                Checks.due("wordsUsed()", x.wordsUsed(), capacity);
            }
        }
    }

    private static void countsUnreachableObjects() {
        Checks.sentence("Unreachable objects that are still present count.");
        MostlyCopying x = new MostlyCopying(2, 16);
        for (int n = 0; n < 5; n++) {
            x.alloc(0, 0, 2);
            x.setRoot(0, 0);
        }
        Checks.refused("alloc(0, 0, 1)", x, () -> x.alloc(0, 0, 1), -6);
        Checks.due("collect()", x.collect(), 5);
        Checks.due("alloc(0, 0, 1), there is room now", x.alloc(0, 0, 1), 1000);
    }

    private static void refusesWhenSpent() {
        Checks.sentence("`SPENT` if `LAST_SERIAL` (4095) objects were made before, discarded ones "
                + "included.");
        MostlyCopying x = Heaps.spent(3, 3);
        Checks.due("wordsUsed()", x.wordsUsed(), 12);
        Checks.refused("alloc(0, 0, 1)", x, () -> x.alloc(0, 0, 1), -7);
        Checks.refused("alloc(1, 3, 0)", x, () -> x.alloc(1, 3, 0), -7);
        x.setRoot(0, 0);
        Checks.due("collect()", x.collect(), 3);
        Checks.refused("alloc on an empty heap", x, () -> x.alloc(0, 0, 1), -7);
    }

    private static void makesTheLastSerial() {
        Checks.sentence("The object with serial 4095 can still be made.");
        MostlyCopying x = new MostlyCopying(2, 16);
        for (int serial = 1; serial <= 4094; serial++) {
            x.alloc(0, 0, 3);
            x.setRoot(0, 0);
            x.collect();
        }
        Checks.due("addressOf(4094)", x.addressOf(4094), 0);
        Checks.due("alloc of object 4095", x.alloc(0, 2, 1), 1000);
        Checks.due("serialAt(1003)", x.serialAt(1003), 4095);
        Checks.due("addressOf(4095)", x.addressOf(4095), 1000);
        Checks.due("shapeAt(1000)", x.shapeAt(1000), 9);
        Checks.due("put(0, 2, 5)", x.put(0, 2, 5), 0);
        Checks.due("link(0, 1, 0)", x.link(0, 1, 0), 0);
        Checks.due("collect()", x.collect(), 0);
        Checks.due("addressOf(4095)", x.addressOf(4095), 1000);
        Checks.due("field(1000, 2)", x.field(1000, 2), 5);
        Checks.refused("alloc of object 4096", x, () -> x.alloc(0, 0, 1), -7);
    }

    private static void placesInSequence() {
        Checks.sentence("Otherwise the object gets the next serial and is placed as described under "
                + "Terms, where every free page may be taken.");
        MostlyCopying x = new MostlyCopying(2, 60);
        int[] raws = {2, 2, 1, 3, 2, 1, 3, 1, 2};
        int[] starts = {1000, 1003, 1006, 1008, 1012, 1016, 1018, 1022, 1024};
        for (int n = 0; n < raws.length; n++) {
            Checks.due("alloc(0, 0, " + raws[n] + ")", x.alloc(0, 0, raws[n]), starts[n]);
            Checks.due("serialAt(start)", x.serialAt(starts[n]), n + 1);
        }
        x.setRoot(0, 1012);
        Checks.due("collect()", x.collect(), 7);
        Checks.due("alloc(0, 0, 3), page 0 was freed", x.alloc(0, 0, 3), 1000);
        Checks.due("serialAt(1000)", x.serialAt(1000), 10);
    }

    /** On words that a discarded object and on words that a moved object have written before. */
    private static void answersTheStart() {
        Checks.sentence("All its fields hold 0, root i holds its start, and the start is answered.");
        for (int[] shape : Heaps.SHAPES) {
            MostlyCopying x = new MostlyCopying(4, 60);
            x.alloc(1, 2, 1);
            x.alloc(2, 0, 3);
            x.alloc(0, 1, 0);
            x.link(0, 0, 1);
            x.link(1, 0, 1);
            x.link(1, 1, 0);
            x.put(1, 2, 55);
            for (int k = 0; k < 3; k++) {
                x.put(2, k, 66 + k);
            }
            x.setRoot(1, 0);
            x.setRoot(2, 0);
            Checks.due("collect(), 1 moves and 2 is discarded", x.collect(), 1);
            Checks.due("alloc(3, 0, 3), fills the open page", x.alloc(3, 0, 3), 1020);
            int size = 1 + shape[0] + shape[1];
            for (int start = 1000; start + size <= 1008; start += size) {
                Checks.due("alloc", x.alloc(3, shape[0], shape[1]), start);
                Checks.due("root(3)", x.root(3), start);
                Checks.due("baseOf(" + start + ")", x.baseOf(start), start);
                for (int k = 0; k < size - 1; k++) {
                    Checks.due("field(" + start + ", " + k + ")", x.field(start, k), 0);
                }
            }
        }
    }

    private static void takesMobilePages() {
        Checks.sentence("A page taken here is `MOBILE`.");
        MostlyCopying x = new MostlyCopying(3, 60);
        x.alloc(0, 0, 3);
        Checks.due("pageState(0)", x.pageState(0), 1);
        x.collect();
        Checks.due("pageState(0), pinned", x.pageState(0), 2);
        x.alloc(1, 0, 3);
        Checks.due("pageState(1), beside a pinned page", x.pageState(1), 1);
        x.setRoot(0, 0);
        x.collect();
        Checks.due("alloc(0, 0, 3)", x.alloc(0, 0, 3), 1000);
        Checks.due("pageState(0), was pinned once", x.pageState(0), 1);
        Checks.due("pageState(1), pinned", x.pageState(1), 2);
        x.setRoot(2, 1020);
        x.collect();
        x.alloc(0, 0, 3);
        Checks.due("pageState(2), a root points there", x.pageState(2), 1);
    }

    private static void neverCollects() {
        Checks.sentence("`alloc` never collects.");
        MostlyCopying x = new MostlyCopying(2, 20);
        for (int n = 0; n < 5; n++) {
            x.alloc(0, 0, 3);
            x.setRoot(0, 0);
            for (int serial = 1; serial <= n + 1; serial++) {
                int start = 996 + 4 * serial;
                Checks.due("addressOf(" + serial + ")", x.addressOf(serial), start);
            }
        }
        Checks.refused("alloc(0, 0, 3), full", x, () -> x.alloc(0, 0, 3), -6);
        Checks.refused("alloc(0, 0, 1), full again", x, () -> x.alloc(0, 0, 1), -6);
        Checks.due("wordsUsed()", x.wordsUsed(), 20);
    }

    private static void oldRootPlaysNoPart() {
        Checks.sentence("The int that root i held before plays no part.");
        for (int word : new int[] {0, -9, 999, 1000, 1002, 1004, 1006, 1008, 1255, 1 << 31}) {
            MostlyCopying x = new MostlyCopying(3, 60);
            x.alloc(0, 1, 2);
            x.setRoot(2, word);
            Checks.due("alloc(2, 0, 1), root 2 held " + word, x.alloc(2, 0, 1), 1004);
            Checks.due("root(2)", x.root(2), 1004);
            Checks.due("serialAt(1004)", x.serialAt(1004), 2);
            Checks.due("shapeAt(1000)", x.shapeAt(1000), 6);
        }
    }

    private static void changesNothingElse() {
        Checks.sentence("The other roots, all other objects and their fields do not change.");
        MostlyCopying x = WordReads.heap();
        for (int[] object : WordReads.OBJECTS) {
            x.setRoot(0, object[0]);
            for (int k = 0; k < 3; k++) {
                x.link(0, k, 0);
                x.put(0, k, -77);
            }
        }
        x.setRoot(0, 1007);
        List<Integer> before = Checks.state(x);
        for (int n = 0; n < 10; n++) {
            x.alloc(3, 1, 1);
        }
        for (int i = 0; i < 3; i++) {
            Checks.due("root(" + i + ")", x.root(i), before.get(1 + i));
        }
        List<Integer> after = Checks.state(x);
        for (int[] object : WordReads.OBJECTS) {
            int at = 10 + 6 * (object[0] - 999);
            int end = at + 6 * (1 + object[2] + object[3]);
            boolean same = after.subList(at, end).equals(before.subList(at, end));
            Checks.that("object " + object[1] + " stays as it was", same);
        }
    }

    private static void usesUpNoSerial() {
        Checks.sentence("A refused call uses up no serial.");
        MostlyCopying x = new MostlyCopying(2, 16);
        x.alloc(0, 0, 3);
        x.alloc(2, 0, 1);
        Checks.due("serial after BAD_ROOT", x.serialAt(x.alloc(0, 0, 3)), 2);
        x.alloc(0, 0, 0);
        x.alloc(0, 4, 0);
        Checks.due("serial after BAD_SHAPE", x.serialAt(x.alloc(0, 0, 3)), 3);
        x.alloc(0, 0, 3);
        x.alloc(0, 0, 3);
        x.alloc(0, 0, 1);
        x.setRoot(0, 0);
        x.collect();
        Checks.due("serial after FULL", x.serialAt(x.alloc(0, 0, 3)), 5);
        for (int n = 0; n < 5000; n++) {
            x.alloc(-1, 0, 1);
            x.alloc(0, -1, 1);
        }
        Checks.due("serial after many", x.serialAt(x.alloc(0, 0, 3)), 6);
    }
}
