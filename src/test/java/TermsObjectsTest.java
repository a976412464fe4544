import java.util.List;

/** The terms about words, pages, objects, serials, presence and what is inside. */
public final class TermsObjectsTest {
    public static void main(String[] args) {
        addressesBeginAtTheOrigin();
        noOtherIntIsAnAddress();
        pagesHaveEightAddresses();
        shapesAreFixedAtBirth();
        sizesAreTwoToFour();
        objectsLieOnOnePage();
        fieldsLieBehindTheHeader();
        kindsOfFields();
        noOtherFields();
        pointerFieldsHoldStarts();
        rawFieldsHoldAnyInt();
        serialsCountFromOne();
        serialsAreNeverUsedAgain();
        presentUntilDiscarded();
        unreachableIsStillPresent();
        headerAndAllFieldsCount();
        unoccupiedWordsAreInsideNothing();
        staleIntsAreJudgedAtTheCall();
        Checks.finish();
    }

    /** No run of calls gets an object to the last pages, so 1255 can only be seen to be empty. */
    private static void addressesBeginAtTheOrigin() {
        Checks.sentence("Words have the addresses 1000 to 1255.");
        MostlyCopying x = new MostlyCopying(2, 60);
        Checks.due("alloc(0, 0, 1)", x.alloc(0, 0, 1), 1000);
        Checks.due("baseOf(999)", x.baseOf(999), 0);
        Checks.due("baseOf(1000)", x.baseOf(1000), 1000);
        Checks.due("baseOf(1255)", x.baseOf(1255), 0);
        Checks.due("baseOf(1256)", x.baseOf(1256), 0);
        x.setRoot(0, 1255);
        x.setRoot(1, 1256);
        Checks.due("load(0, 0, 0) through 1255", x.load(0, 0, 0), -2);
        Checks.due("load(0, 1, 0) through 1256", x.load(0, 1, 0), -2);
        Checks.due("collect() with the roots 1255 and 1256", x.collect(), 1);
    }

    private static void noOtherIntIsAnAddress() {
        Checks.sentence("No other int is an address; so 0, negative ints and ints above 1255 are "
                + "not addresses.");
        for (int word : Heaps.noAddresses()) {
            MostlyCopying x = new MostlyCopying(3, 60);
            x.alloc(0, 1, 2);
            x.alloc(1, 1, 2);
            x.setRoot(2, word);
            Checks.due("baseOf(" + word + ")", x.baseOf(word), 0);
            Checks.due("serialAt(" + word + ")", x.serialAt(word), 0);
            Checks.refused("put through " + word, x, () -> x.put(2, 1, 9), -2);
            Checks.refused("link through " + word, x, () -> x.link(2, 0, 0), -2);
            Checks.refused("load through " + word, x, () -> x.load(0, 2, 0), -2);
            x.setRoot(0, 0);
            x.setRoot(1, 0);
            Checks.due("collect() with the root " + word, x.collect(), 2);
        }
    }

    private static void pagesHaveEightAddresses() {
        Checks.sentence("Page p (0 to 31) has the addresses 1000 + 8p to 1000 + 8p + 7.");
        for (int word = 1000; word < 1056; word++) {
            MostlyCopying x = new MostlyCopying(2, 60);
            for (int n = 0; n < 14; n++) {
                x.alloc(0, 0, 3);
            }
            x.setRoot(0, word);
            Checks.due("collect() with the root " + word, x.collect(), 12);
            for (int page = 0; page < 32; page++) {
                boolean hit = word >= 1000 + 8 * page && word <= 1000 + 8 * page + 7;
                Checks.due("pageState(" + page + ")", x.pageState(page), hit ? 2 : 0);
            }
        }
    }

    private static void shapesAreFixedAtBirth() {
        Checks.sentence("An object has P pointer fields and R raw fields, with P >= 0, R >= 0 and "
                + "1 <= P + R <= 3, fixed at its birth.");
        for (int[] shape : Heaps.SHAPES) {
            MostlyCopying x = new MostlyCopying(2, 60);
            x.alloc(0, 2, 1);
            x.alloc(1, 0, 3);
            Checks.due("alloc of a good shape", x.alloc(1, shape[0], shape[1]), 1008);
            int want = 4 * shape[0] + shape[1];
            Checks.due("shapeAt(1008)", x.shapeAt(1008), want);
            x.link(0, 0, 1);
            for (int k = -1; k < 4; k++) {
                x.put(1, k, -1);
                x.link(1, k, 0);
            }
            Checks.due("shapeAt(1008), fields written", x.shapeAt(1008), want);
            x.setRoot(1, 0);
            x.collect();
            Checks.due("shapeAt(1016), moved", x.shapeAt(1016), want);
        }
        int good = 0;
        for (int pointers = -3; pointers <= 5; pointers++) {
            for (int raws = -3; raws <= 5; raws++) {
                good += new MostlyCopying(2, 60).alloc(0, pointers, raws) > 0 ? 1 : 0;
            }
        }
        Checks.due("number of good shapes", good, Heaps.SHAPES.length);
    }

    private static void sizesAreTwoToFour() {
        Checks.sentence("Its size is 1 + P + R words (2 to 4): a header word, then its fields.");
        for (int[] shape : Heaps.SHAPES) {
            MostlyCopying x = new MostlyCopying(2, 60);
            x.alloc(0, shape[0], shape[1]);
            int size = 1 + shape[0] + shape[1];
            Checks.due("wordsUsed()", x.wordsUsed(), size);
            Checks.due("openAddress()", x.openAddress(), 1000 + size);
            int inside = 0;
            for (int word = 1000; word < 1256; word++) {
                inside += x.serialAt(word) == 1 ? 1 : 0;
            }
            Checks.due("number of words inside it", inside, size);
            Checks.due("start of the next", x.alloc(0, 0, 1), 1000 + size);
        }
    }

    private static void objectsLieOnOnePage() {
        Checks.sentence("It occupies that many consecutive addresses, all on one page.");
        for (int[] shape : Heaps.SHAPES) {
            MostlyCopying x = new MostlyCopying(2, 60);
            x.alloc(0, 0, 2);
            for (int n = 0; n < 14; n++) {
                int start = x.alloc(0, shape[0], shape[1]);
                int last = start + shape[0] + shape[1];
                for (int word = start; word <= last; word++) {
                    Checks.due("baseOf(" + word + ")", x.baseOf(word), start);
                }
                Checks.due("baseOf() after it", x.baseOf(last + 1), 0);
                Checks.due("page of " + last, (last - 1000) / 8, (start - 1000) / 8);
            }
        }
    }

    private static void fieldsLieBehindTheHeader() {
        Checks.sentence("Field k lies at address start + 1 + k.");
        for (int[] shape : Heaps.SHAPES) {
            MostlyCopying x = new MostlyCopying(2, 60);
            x.alloc(0, 0, 1);
            int start = x.alloc(1, shape[0], shape[1]);
            int fields = shape[0] + shape[1];
            for (int k = 0; k < fields; k++) {
                Checks.due("baseOf() of field " + k, x.baseOf(start + 1 + k), start);
            }
            Checks.due("baseOf() behind the last field", x.baseOf(start + 1 + fields), 0);
            Checks.due("baseOf() of its header", x.baseOf(start), start);
            Checks.due("baseOf() before its header", x.baseOf(start - 1), 1000);
        }
    }

    private static void kindsOfFields() {
        Checks.sentence("Fields are numbered k = 0 to P + R - 1: those with k < P are pointer "
                + "fields, the others are raw fields.");
        for (int[] shape : Heaps.SHAPES) {
            MostlyCopying x = new MostlyCopying(2, 60);
            x.alloc(0, shape[0], shape[1]);
            for (int k = 0; k < shape[0] + shape[1]; k++) {
                boolean pointer = k < shape[0];
                Checks.due("put(0, " + k + ", 77)", x.put(0, k, 77), pointer ? -4 : 0);
                Checks.due("field(1000, " + k + ")", x.field(1000, k), pointer ? 0 : 77);
                Checks.due("link(0, " + k + ", 0)", x.link(0, k, 0), pointer ? 0 : -4);
                Checks.due("field(1000, " + k + ")", x.field(1000, k), pointer ? 1000 : 77);
            }
        }
    }

    /** Between two neighbours whose fields aren't 0, so that a stray reading or writing is seen. */
    private static void noOtherFields() {
        Checks.sentence("An object has no field k for any other int k, negative ones included.");
        for (int[] shape : Heaps.SHAPES) {
            MostlyCopying x = new MostlyCopying(3, 60);
            x.alloc(0, 0, 1);
            x.put(0, 0, 55);
            int start = x.alloc(1, shape[0], shape[1]);
            x.alloc(0, 0, 1);
            x.put(0, 0, 66);
            for (int k : Heaps.badFields(shape[0] + shape[1])) {
                Checks.refused("put(1, " + k + ", 9)", x, () -> x.put(1, k, 9), -3);
                Checks.refused("link(1, " + k + ", 0)", x, () -> x.link(1, k, 0), -3);
                Checks.refused("load(2, 1, " + k + ")", x, () -> x.load(2, 1, k), -3);
                Checks.due("field(start, " + k + ")", x.field(start, k), 0);
            }
        }
    }

    private static void pointerFieldsHoldStarts() {
        Checks.sentence("A pointer field always holds 0 (null) or the start of an object that is "
                + "present.");
        MostlyCopying x = new MostlyCopying(4, 60);
        x.alloc(0, 3, 0);
        allPointersAreGood(x);
        for (int n = 0; n < 40; n++) {
            x.alloc(1, 2, 1);
            x.setRoot(1, x.root(1) + n % 4);
            x.setRoot(2, x.field(1000, n % 3));
            x.link(1, 0, 2);
            x.link(1, 1, 1);
            x.link(0, n % 3, 1);
            allPointersAreGood(x);
            if (n % 4 == 3) {
                x.setRoot(1, 0);
                x.setRoot(2, 0);
                x.link(0, n % 2, 3);
                x.collect();
                allPointersAreGood(x);
            }
        }
    }

    private static void allPointersAreGood(MostlyCopying x) {
        for (int word = 1000; word < 1256; word++) {
            for (int k = 0; k < x.shapeAt(word) / 4; k++) {
                int held = x.field(word, k);
                Checks.due("start of what field " + k + " holds", x.baseOf(held), held);
            }
        }
    }

    private static void rawFieldsHoldAnyInt() {
        Checks.sentence("A raw field holds any int; it is never a pointer, whatever its value.");
        int[] values = {
            Integer.MIN_VALUE, -1, 1, 1000, 1001, 1004, 1008, 1012, 1016, 1020, 1256,
            Integer.MAX_VALUE
        };
        for (int value : values) {
            MostlyCopying x = new MostlyCopying(2, 60);
            x.alloc(0, 1, 2);
            x.alloc(1, 0, 3);
            x.alloc(1, 0, 3);
            x.alloc(1, 1, 2);
            x.link(0, 0, 1);
            x.put(0, 1, value);
            x.put(1, 2, value);
            x.setRoot(1, 0);
            Checks.due("collect(), 3 is in no use", x.collect(), 1);
            Checks.due("addressOf(3), though " + value + " is held", x.addressOf(3), 0);
            Checks.due("field(1000, 1)", x.field(1000, 1), value);
            Checks.due("field(1016, 2), moved", x.field(1016, 2), value);
            Checks.due("field(1016, 1)", x.field(1016, 1), 0);
        }
    }

    private static void serialsCountFromOne() {
        Checks.sentence("Every object has a serial, given at birth: 1 for the first object made, "
                + "then 2, 3 and so on.");
        MostlyCopying x = new MostlyCopying(2, 60);
        for (int serial = 1; serial <= 200; serial++) {
            int start = x.alloc(0, serial % 2, 1);
            Checks.due("serialAt(" + start + ")", x.serialAt(start), serial);
            Checks.due("addressOf(" + serial + ")", x.addressOf(serial), start);
            Checks.due("addressOf(" + (serial + 1) + ")", x.addressOf(serial + 1), 0);
            if (x.wordsUsed() > 56) {
                x.collect();
            }
        }
    }

    private static void serialsAreNeverUsedAgain() {
        Checks.sentence("Serials are never used again, and an object keeps its serial when it "
                + "moves.");
        MostlyCopying x = new MostlyCopying(3, 60);
        x.alloc(0, 1, 2);
        x.alloc(1, 0, 3);
        x.alloc(1, 0, 3);
        x.link(0, 0, 1);
        x.setRoot(1, 0);
        for (int serial = 4; serial < 60; serial++) {
            int start = x.alloc(1, 0, 2);
            Checks.due("serialAt(" + start + ")", x.serialAt(start), serial);
            x.setRoot(1, 0);
            int before = x.addressOf(3);
            Checks.due("collect()", x.collect(), 1);
            Checks.that("3 has moved", x.addressOf(3) != before);
            Checks.due("serialAt(moved)", x.serialAt(x.field(1000, 0)), 3);
            Checks.due("serialAt(1000)", x.serialAt(1000), 1);
            Checks.due("addressOf(" + serial + ")", x.addressOf(serial), 0);
        }
    }

    private static void presentUntilDiscarded() {
        Checks.sentence("An object is present from its birth until a `collect()` discards it.");
        MostlyCopying x = new MostlyCopying(2, 60);
        Checks.due("addressOf(1), not born", x.addressOf(1), 0);
        x.alloc(0, 0, 3);
        Checks.due("addressOf(1), born", x.addressOf(1), 1000);
        x.collect();
        Checks.due("addressOf(1), kept", x.addressOf(1), 1000);
        x.setRoot(0, 0);
        Checks.due("addressOf(1), let go", x.addressOf(1), 1000);
        x.collect();
        Checks.due("addressOf(1), discarded", x.addressOf(1), 0);
        Checks.due("serialAt(1000), discarded", x.serialAt(1000), 0);
        Checks.due("wordsUsed(), discarded", x.wordsUsed(), 0);
        x.setRoot(0, 1000);
        x.collect();
        Checks.due("addressOf(1), a root that comes too late", x.addressOf(1), 0);
    }

    private static void unreachableIsStillPresent() {
        Checks.sentence("Being unreachable alone does not end its presence.");
        MostlyCopying x = new MostlyCopying(2, 16);
        for (int n = 0; n < 4; n++) {
            x.alloc(0, 0, 3);
            x.put(0, 2, n);
        }
        x.setRoot(0, 0);
        Checks.due("alloc(0, 0, 1), there is no room", x.alloc(0, 0, 1), -6);
        for (int n = 0; n < 4; n++) {
            int start = 1000 + 4 * n;
            Checks.due("addressOf(" + (n + 1) + ")", x.addressOf(n + 1), start);
            Checks.due("serialAt(" + start + ")", x.serialAt(start), n + 1);
            Checks.due("field(" + start + ", 2)", x.field(start, 2), n);
            x.setRoot(1, start + 3);
            Checks.due("put(1, 0, 8), found again", x.put(1, 0, 8), 0);
            x.setRoot(1, 0);
        }
        Checks.due("pageState(0)", x.pageState(0), 1);
        Checks.due("pageState(1)", x.pageState(1), 1);
        Checks.due("wordsUsed()", x.wordsUsed(), 16);
    }

    private static void headerAndAllFieldsCount() {
        Checks.sentence("An int is *inside* an object when it is one of the addresses occupied by a "
                + "present object: the header and all fields from first to last count.");
        for (int[] shape : Heaps.SHAPES) {
            int last = 1000 + shape[0] + shape[1];
            for (int word = 998; word <= last + 2; word++) {
                boolean inside = word >= 1000 && word <= last;
                MostlyCopying x = new MostlyCopying(2, 60);
                x.alloc(0, shape[0], shape[1]);
                x.setRoot(0, word);
                Checks.due("baseOf(" + word + ")", x.baseOf(word), inside ? 1000 : 0);
                Checks.due("serialAt(" + word + ")", x.serialAt(word), inside ? 1 : 0);
                Checks.due("load through " + word, x.load(1, 0, 0), inside ? 0 : -2);
                Checks.due("collect(), root " + word, x.collect(), inside ? 0 : 1);
            }
        }
    }

    /** Words behind the open page's objects, in a closed page, in free pages, left by moved ones. */
    private static void unoccupiedWordsAreInsideNothing() {
        Checks.sentence("An int that is no address, or the address of a word that no present object "
                + "occupies, is inside no object.");
        MostlyCopying x = new MostlyCopying(3, 60);
        x.alloc(0, 1, 0);
        x.alloc(0, 1, 2);
        x.alloc(1, 0, 3);
        x.alloc(2, 0, 2);
        x.link(0, 0, 1);
        x.setRoot(1, 0);
        x.setRoot(2, 0);
        Checks.due("collect()", x.collect(), 1);
        x.alloc(1, 0, 1);
        // 1 and 2 on page 0, the moved 3 and the new 5 on page 2; page 1 is free again.
        int[] starts = {1000, 1002, 1016, 1020};
        int[] ends = {1002, 1006, 1020, 1022};
        for (int word = 990; word < 1270; word++) {
            int want = 0;
            for (int n = 0; n < 4; n++) {
                want = word >= starts[n] && word < ends[n] ? starts[n] : want;
            }
            Checks.due("baseOf(" + word + ")", x.baseOf(word), want);
            x.setRoot(2, word);
            Checks.due("load through " + word, x.load(2, 2, 0), want == 0 ? -2 : 0);
        }
    }

    private static void staleIntsAreJudgedAtTheCall() {
        Checks.sentence("This is always judged by the state at the moment of the call; so a stale "
                + "int in a root is inside whatever present object occupies that address at that "
                + "moment, if any.");
        MostlyCopying x = new MostlyCopying(3, 60);
        x.setRoot(2, 1005);
        x.alloc(0, 0, 3);
        Checks.refused("put(2, 0, 9), nobody there yet", x, () -> x.put(2, 0, 9), -2);
        x.alloc(0, 1, 1);
        Checks.due("put(2, 1, 9), in object 2", x.put(2, 1, 9), 0);
        Checks.due("field(1004, 1)", x.field(1004, 1), 9);
        x.setRoot(0, 0);
        x.setRoot(2, 0);
        x.collect();
        x.setRoot(2, 1005);
        Checks.refused("link(2, 0, 2), it is gone", x, () -> x.link(2, 0, 2), -2);
        x.alloc(0, 0, 2);
        x.alloc(0, 2, 0);
        List<Integer> roots = Checks.roots(x);
        Checks.due("link(2, 1, 2), in object 4", x.link(2, 1, 2), 0);
        Checks.due("field(1003, 1)", x.field(1003, 1), 1003);
        Checks.rootsUnchanged("link", x, roots);
        x.setRoot(0, 0);
        Checks.due("collect(), the stale root pins", x.collect(), 0);
        Checks.due("addressOf(3)", x.addressOf(3), 1000);
        Checks.due("load(0, 2, 1)", x.load(0, 2, 1), 0);
        Checks.due("root(0)", x.root(0), 1003);
    }
}
