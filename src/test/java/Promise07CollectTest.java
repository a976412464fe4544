import java.util.List;

public final class Promise07CollectTest {
    public static void main(String[] args) {
        isNeverRefused();
        judgesByTheStateBefore();
        pinsPagesThatRootsPointInto();
        unusedWordsPinNothing();
        rawFieldsPinNothing();
        listBeginsWithPinnedPages();
        listBeginsInOrderOfStart();
        listIsBreadthFirst();
        listSkipsNullAndRepeats();
        listHoldsAllThatIsReachable();
        pinnedObjectsStay();
        movesToNoFormerOpenPage();
        takesOnlyPagesFreeBefore();
        takesNoPageTwice();
        adjustsEveryPointer();
        adjustsNothingElse();
        discardsTheRest();
        freesPagesThatAreNotPinned();
        promotesAndTakesPages();
        opensThePageOfTheLastMoved();
        opensNoPageWhenNoneMoved();
        countsDiscardedObjects();
        keepsSerialsAndShapes();
        keepsThemForLong();
        givesNoSerialAgain();
        Checks.finish();
    }

    private static void letGo(MostlyCopying x, int... roots) {
        for (int i : roots) {
            x.setRoot(i, 0);
        }
    }

    private static void isNeverRefused() {
        Checks.sentence("`collect()` is never refused.");
        MostlyCopying x = new MostlyCopying(2, 16);
        Checks.due("collect() of a new heap", x.collect(), 0);
        Checks.due("collect() again", x.collect(), 0);
        x.setRoot(0, Integer.MIN_VALUE);
        x.setRoot(1, Integer.MAX_VALUE);
        Checks.due("collect() with far roots", x.collect(), 0);
        for (int n = 0; n < 8; n++) {
            x.alloc(0, 1, 0);
            x.link(0, 0, 0);
        }
        Checks.due("collect() of a full heap", x.collect(), 4);
        Checks.due("collect() when nothing is to be done", x.collect(), 0);
        letGo(x, 0);
        Checks.due("collect() of everything", x.collect(), 4);
        Checks.due("collect() of an emptied heap", x.collect(), 0);
        MostlyCopying spent = Heaps.spent(3, 3);
        letGo(spent, 0);
        Checks.due("collect() of a spent heap", spent.collect(), 3);
    }

    /** Root 1 points to where the object comes to lie only in this very call. */
    private static void judgesByTheStateBefore() {
        Checks.sentence("Everything is judged by the state before the call.");
        MostlyCopying x = new MostlyCopying(3, 60);
        x.alloc(0, 1, 2);
        x.alloc(2, 0, 3);
        x.alloc(1, 0, 3);
        x.alloc(2, 0, 3);
        x.link(0, 0, 1);
        x.setRoot(1, 1016);
        x.setRoot(2, 1020);
        Checks.due("collect()", x.collect(), 1);
        Checks.due("addressOf(3), moved under root 1", x.addressOf(3), 1016);
        Checks.due("pageState(2), not pinned before", x.pageState(2), 1);
        Checks.due("openAddress()", x.openAddress(), 1020);
        Checks.due("collect(), root 1 pins by now", x.collect(), 0);
        Checks.due("addressOf(3)", x.addressOf(3), 1016);
        Checks.due("pageState(2)", x.pageState(2), 2);
    }

    private static void pinsPagesThatRootsPointInto() {
        Checks.sentence("A page is *pinned* when some root holds an int that is inside an object on "
                + "that page.");
        for (int i = 0; i < 8; i++) {
            for (int word = 1008; word <= 1015; word++) {
                MostlyCopying x = new MostlyCopying(8, 60);
                for (int n = 0; n < 6; n++) {
                    x.alloc(i, 0, 3);
                }
                x.setRoot(i, word);
                Checks.due("collect(), root " + i + " holds " + word, x.collect(), 4);
                Checks.due("pageState(0)", x.pageState(0), 0);
                Checks.due("pageState(1)", x.pageState(1), 2);
                Checks.due("pageState(2)", x.pageState(2), 0);
            }
        }
        MostlyCopying y = new MostlyCopying(8, 60);
        for (int i = 0; i < 8; i++) {
            y.alloc(i, 0, 3);
            y.alloc(i, 0, 2);
        }
        Checks.due("collect(), eight roots in eight pages", y.collect(), 0);
        for (int page = 0; page < 8; page++) {
            Checks.due("pageState(" + page + ")", y.pageState(page), 2);
        }
    }

    /** Page 0 is promoted, page 1 is closed, page 2 is open: each has words that are not used. */
    private static void unusedWordsPinNothing() {
        Checks.sentence("An int that hits only unused words pins nothing.");
        int[] unused = {
            992, 993, 999, 1003, 1007, 1014, 1015, 1019, 1023, 1024, 1031, 1255, 1256, 1263,
            Integer.MIN_VALUE, -1000, -1, Integer.MAX_VALUE
        };
        for (int word : unused) {
            MostlyCopying x = new MostlyCopying(2, 60);
            x.alloc(0, 1, 1);
            x.collect();
            x.alloc(1, 0, 3);
            x.alloc(1, 0, 1);
            x.alloc(1, 0, 2);
            x.setRoot(0, word);
            x.setRoot(1, word);
            Checks.due("collect() with the roots " + word, x.collect(), 4);
            for (int page = 0; page < 32; page++) {
                Checks.due("pageState(" + page + ")", x.pageState(page), 0);
            }
            Checks.due("root(0)", x.root(0), word);
        }
    }

    private static void rawFieldsPinNothing() {
        Checks.sentence("Raw fields pin nothing.");
        for (int word = 1000; word < 1016; word++) {
            MostlyCopying x = new MostlyCopying(2, 60);
            for (int n = 0; n < 4; n++) {
                x.alloc(0, 0, 3);
            }
            x.alloc(1, 0, 3);
            for (int k = 0; k < 3; k++) {
                x.put(1, k, word);
            }
            letGo(x, 0);
            Checks.due("collect() with the raws " + word, x.collect(), 4);
            Checks.due("pageState(0)", x.pageState(0), 0);
            Checks.due("pageState(1)", x.pageState(1), 0);
            Checks.due("field(1016, 2)", x.field(1016, 2), word);
        }
    }

    private static void pinnedFirst() {
        Checks.sentence("First come all objects on pinned pages, those in no use included, in "
                + "ascending order of start.");
    }

    /** Objects 1 and 3 are in no use, but lie on the page of 2; 3 alone points to 5. */
    private static void listBeginsWithPinnedPages() {
        pinnedFirst();
        MostlyCopying x = new MostlyCopying(3, 60);
        x.alloc(0, 0, 2);
        x.alloc(1, 0, 1);
        x.alloc(2, 1, 1);
        x.alloc(0, 0, 3);
        x.alloc(0, 0, 3);
        x.link(2, 0, 0);
        letGo(x, 0, 2);
        Checks.due("collect()", x.collect(), 1);
        Checks.due("addressOf(1), before the one in use", x.addressOf(1), 1000);
        Checks.due("addressOf(2)", x.addressOf(2), 1003);
        Checks.due("addressOf(3), behind the one in use", x.addressOf(3), 1005);
        Checks.due("addressOf(4)", x.addressOf(4), 0);
        Checks.due("addressOf(5), kept by one in no use", x.addressOf(5), 1016);
        Checks.due("field(1005, 0)", x.field(1005, 0), 1016);
    }

    /** On page 0 lie younger objects than on page 1, and root 0 points to page 1. */
    private static void listBeginsInOrderOfStart() {
        pinnedFirst();
        MostlyCopying x = new MostlyCopying(5, 60);
        x.alloc(1, 0, 3);
        x.alloc(1, 0, 3);
        x.alloc(0, 1, 2);
        x.alloc(0, 1, 2);
        letGo(x, 1);
        Checks.due("collect()", x.collect(), 2);
        Checks.due("alloc(1, 1, 2)", x.alloc(1, 1, 2), 1000);
        Checks.due("alloc(2, 1, 2)", x.alloc(2, 1, 2), 1004);
        // Objects 7 to 10 on pages 2 and 3, linked from 4, 3, 6 and 5.
        int[] from = {1012, 1008, 1004, 1000};
        for (int start : from) {
            x.alloc(3, 0, 3);
            x.setRoot(4, start);
            x.link(4, 0, 3);
        }
        letGo(x, 2, 3, 4);
        Checks.due("collect()", x.collect(), 0);
        Checks.due("addressOf(10), of the lowest", x.addressOf(10), 1032);
        Checks.due("addressOf(9)", x.addressOf(9), 1036);
        Checks.due("addressOf(8)", x.addressOf(8), 1040);
        Checks.due("addressOf(7), of the highest", x.addressOf(7), 1044);
    }

    private static void goneThrough() {
        Checks.sentence("Then the list is gone through from its front to its end, later additions "
                + "included: for each object, for its pointer fields in ascending k, the object "
                + "whose start the field holds (if the field is not 0) is added at the end unless "
                + "it is in the list already.");
    }

    /** 1 points to 5, 4 and 3 in turn, these to 8, 7 and 6: they move in this very order. */
    private static void listIsBreadthFirst() {
        goneThrough();
        MostlyCopying x = new MostlyCopying(8, 60);
        x.alloc(0, 3, 0);
        x.alloc(7, 0, 3);
        for (int i = 1; i <= 6; i++) {
            x.alloc(i, 2, 1);
        }
        x.link(0, 0, 3);
        x.link(0, 1, 2);
        x.link(0, 2, 1);
        x.link(3, 1, 6);
        x.link(2, 0, 5);
        x.link(1, 1, 4);
        x.link(6, 0, 1);
        letGo(x, 1, 2, 3, 4, 5, 6, 7);
        Checks.due("collect()", x.collect(), 0);
        int[] order = {5, 4, 3, 8, 7, 6};
        for (int n = 0; n < order.length; n++) {
            Checks.due("addressOf(" + order[n] + ")", x.addressOf(order[n]), 1032 + 4 * n);
        }
    }

    private static void listSkipsNullAndRepeats() {
        goneThrough();
        MostlyCopying x = new MostlyCopying(5, 60);
        x.alloc(0, 3, 0);
        x.alloc(1, 0, 3);
        x.alloc(1, 3, 0);
        x.alloc(2, 2, 0);
        // Null first, then twice the same, and back to the front, to itself and to each other.
        x.link(0, 1, 2);
        x.link(0, 2, 2);
        x.link(2, 0, 1);
        x.link(2, 1, 2);
        x.link(1, 0, 2);
        x.link(1, 1, 0);
        x.link(1, 2, 1);
        letGo(x, 1, 2);
        Checks.due("collect()", x.collect(), 0);
        Checks.due("addressOf(4)", x.addressOf(4), 1016);
        Checks.due("addressOf(3)", x.addressOf(3), 1019);
        Checks.due("openAddress(), each moved once", x.openAddress(), 1023);
        Checks.due("wordsUsed()", x.wordsUsed(), 15);
        Checks.due("field(1000, 0)", x.field(1000, 0), 0);
    }

    /** As many objects as there can be, in one chain: the list is as long as it can get. */
    private static void listHoldsAllThatIsReachable() {
        goneThrough();
        MostlyCopying x = new MostlyCopying(3, 60);
        x.alloc(0, 1, 0);
        x.setRoot(1, 1000);
        for (int n = 1; n < 30; n++) {
            x.alloc(2, 1, 0);
            x.link(1, 0, 2);
            x.setRoot(1, x.root(2));
        }
        letGo(x, 1, 2);
        Checks.due("wordsUsed()", x.wordsUsed(), 60);
        for (int round = 0; round < 3; round++) {
            Checks.due("collect()", x.collect(), 0);
            int word = 1000;
            for (int serial = 1; serial <= 30; serial++) {
                Checks.due("serialAt(" + word + ")", x.serialAt(word), serial);
                word = x.field(word, 0);
            }
            Checks.due("end of the chain", word, 0);
            Checks.due("wordsUsed()", x.wordsUsed(), 60);
        }
    }

    private static void pinnedObjectsStay() {
        Checks.sentence("Objects on pinned pages keep their addresses.");
        MostlyCopying x = new MostlyCopying(4, 60);
        x.alloc(0, 1, 1);
        x.alloc(1, 1, 0);
        x.alloc(3, 0, 2);
        x.alloc(2, 1, 0);
        x.link(0, 0, 2);
        x.link(2, 0, 1);
        x.link(1, 0, 0);
        letGo(x, 1, 2, 3);
        for (int round = 0; round < 5; round++) {
            Checks.due("collect()", x.collect(), 0);
            Checks.due("addressOf(1), pinned by a root", x.addressOf(1), 1000);
            Checks.due("addressOf(2), pinned and pointed to", x.addressOf(2), 1003);
            Checks.due("addressOf(3), pinned in no use", x.addressOf(3), 1005);
            Checks.due("field of the moved one", x.field(x.addressOf(4), 0), 1003);
        }
    }

    private static void movesToNoFormerOpenPage() {
        Checks.sentence("The other objects of the list are moved: there is now no open page, and "
                + "they are placed one by one, in list order, as described under Terms.");
        MostlyCopying x = new MostlyCopying(4, 60);
        x.alloc(1, 0, 1);
        x.alloc(2, 0, 3);
        x.alloc(0, 2, 0);
        Checks.due("openAddress(), room on the page to be pinned", x.openAddress(), 1011);
        x.link(0, 0, 1);
        x.link(0, 1, 2);
        letGo(x, 1, 2);
        Checks.due("collect()", x.collect(), 0);
        Checks.due("addressOf(3)", x.addressOf(3), 1008);
        Checks.due("addressOf(1)", x.addressOf(1), 1016);
        Checks.due("addressOf(2)", x.addressOf(2), 1018);
        Checks.due("openAddress(), room on the page of the moved", x.openAddress(), 1022);
        Checks.due("collect()", x.collect(), 0);
        Checks.due("addressOf(1), not behind itself", x.addressOf(1), 1000);
        Checks.due("addressOf(2)", x.addressOf(2), 1002);
    }

    private static void freshPages() {
        Checks.sentence("Only pages that were free before the call, and were not taken during it, "
                + "may be taken.");
    }

    private static void takesOnlyPagesFreeBefore() {
        freshPages();
        MostlyCopying x = new MostlyCopying(3, 60);
        x.alloc(1, 0, 3);
        x.alloc(1, 0, 3);
        x.alloc(0, 1, 2);
        x.link(0, 0, 1);
        letGo(x, 1);
        Checks.due("collect()", x.collect(), 1);
        Checks.due("addressOf(2), page 0 was in use", x.addressOf(2), 1016);
        Checks.due("collect()", x.collect(), 0);
        Checks.due("addressOf(2), page 0 was free", x.addressOf(2), 1000);
        Checks.due("collect()", x.collect(), 0);
        Checks.due("addressOf(2), page 2 was free", x.addressOf(2), 1016);
        Checks.due("field(1008, 0)", x.field(1008, 0), 1016);
    }

    /** A page left with five words isn't taken again for two more. */
    private static void takesNoPageTwice() {
        freshPages();
        MostlyCopying x = new MostlyCopying(6, 60);
        x.alloc(0, 3, 0);
        x.alloc(5, 0, 3);
        x.alloc(1, 1, 1);
        x.alloc(2, 1, 0);
        x.alloc(3, 0, 3);
        x.alloc(4, 0, 3);
        x.alloc(5, 0, 1);
        x.link(0, 0, 1);
        x.link(0, 1, 2);
        x.link(0, 2, 3);
        x.link(1, 0, 4);
        x.link(2, 0, 5);
        letGo(x, 1, 2, 3, 4, 5);
        // Page 0: 1 and 2; page 1: 3 and 4 with five words; page 2: 5 and 6; page 3: 7.
        Checks.due("addressOf(7)", x.addressOf(7), 1024);
        Checks.due("collect()", x.collect(), 0);
        Checks.due("addressOf(3)", x.addressOf(3), 1032);
        Checks.due("addressOf(4)", x.addressOf(4), 1035);
        Checks.due("addressOf(5), page 4 has no room", x.addressOf(5), 1040);
        Checks.due("addressOf(6)", x.addressOf(6), 1044);
        Checks.due("addressOf(7), page 4 would have room", x.addressOf(7), 1048);
    }

    /** In pinned objects in use and in no use, in moved ones, to themselves and to each other. */
    private static void adjustsEveryPointer() {
        Checks.sentence("Every pointer field of every object of the list that held the old start of "
                + "a moved object holds its new start.");
        MostlyCopying x = new MostlyCopying(4, 60);
        x.alloc(0, 2, 1);
        x.alloc(1, 3, 0);
        x.alloc(2, 3, 0);
        x.alloc(3, 3, 0);
        x.link(0, 0, 3);
        x.link(0, 1, 3);
        for (int k = 0; k < 3; k++) {
            x.link(1, k, k == 1 ? 3 : 2);
            x.link(2, k, k == 1 ? 3 : 2);
            x.link(3, k, k == 1 ? 3 : 2);
        }
        letGo(x, 1, 2, 3);
        for (int round = 0; round < 4; round++) {
            Checks.due("collect()", x.collect(), 0);
            int fourth = round % 2 == 0 ? 1016 : 1008;
            int third = fourth + 4;
            Checks.due("addressOf(4)", x.addressOf(4), fourth);
            Checks.due("addressOf(3)", x.addressOf(3), third);
            Checks.due("field(1000, 0)", x.field(1000, 0), fourth);
            Checks.due("field(1000, 1)", x.field(1000, 1), fourth);
            for (int start : new int[] {1004, third, fourth}) {
                for (int k = 0; k < 3; k++) {
                    int want = k == 1 ? fourth : third;
                    Checks.due("field(" + start + ", " + k + ")", x.field(start, k), want);
                }
            }
        }
    }

    private static void adjustsNothingElse() {
        Checks.sentence("Nothing else in fields changes: raw fields keep their ints, even those "
                + "equal to an old start, and so do all roots.");
        MostlyCopying x = new MostlyCopying(5, 60);
        x.alloc(0, 1, 2);
        x.alloc(1, 2, 1);
        x.alloc(2, 2, 1);
        x.link(0, 0, 2);
        x.link(2, 0, 1);
        x.put(0, 1, 1008);
        x.put(0, 2, 1009);
        x.put(1, 2, 1008);
        x.put(2, 2, 1008);
        x.setRoot(1, 1016);
        x.setRoot(2, 1012);
        x.setRoot(3, Integer.MAX_VALUE);
        x.setRoot(4, 1003);
        List<Integer> roots = Checks.roots(x);
        Checks.due("collect()", x.collect(), 0);
        Checks.due("addressOf(3), moved from 1008", x.addressOf(3), 1016);
        Checks.due("field(1000, 1), the old start", x.field(1000, 1), 1008);
        Checks.due("field(1000, 2), inside the old place", x.field(1000, 2), 1009);
        Checks.due("field(1004, 0), null", x.field(1004, 0), 0);
        Checks.due("field(1004, 1), null", x.field(1004, 1), 0);
        Checks.due("field(1004, 2), the old start", x.field(1004, 2), 1008);
        Checks.due("field(1016, 0), to a pinned one", x.field(1016, 0), 1004);
        Checks.due("field(1016, 1), null", x.field(1016, 1), 0);
        Checks.due("field(1016, 2), its own old start", x.field(1016, 2), 1008);
        Checks.rootsUnchanged("collect", x, roots);
    }

    private static void discardsTheRest() {
        Checks.sentence("Present objects that are not in the list are discarded.");
        MostlyCopying x = new MostlyCopying(4, 60);
        x.alloc(0, 1, 2);
        x.alloc(0, 0, 3);
        x.alloc(1, 1, 2);
        x.alloc(2, 1, 2);
        x.alloc(3, 1, 2);
        x.setRoot(0, 1000);
        // A cycle that nobody keeps, which points to what is kept; and one kept beside it.
        x.link(1, 0, 2);
        x.link(2, 0, 1);
        x.link(0, 0, 3);
        x.link(3, 0, 0);
        letGo(x, 1, 2, 3);
        Checks.due("collect()", x.collect(), 2);
        Checks.due("addressOf(3)", x.addressOf(3), 0);
        Checks.due("addressOf(4)", x.addressOf(4), 0);
        Checks.due("addressOf(5)", x.addressOf(5), 1024);
        Checks.due("wordsUsed()", x.wordsUsed(), 12);
        for (int word = 1008; word < 1024; word++) {
            Checks.due("serialAt(" + word + ")", x.serialAt(word), 0);
        }
        letGo(x, 0);
        Checks.due("collect()", x.collect(), 3);
        for (int word = 1000; word < 1256; word++) {
            Checks.due("serialAt(" + word + ")", x.serialAt(word), 0);
        }
    }

    private static void freesPagesThatAreNotPinned() {
        Checks.sentence("Pages in use before that are not pinned are free now.");
        MostlyCopying x = new MostlyCopying(4, 60);
        x.alloc(0, 1, 2);
        x.alloc(1, 0, 3);
        x.alloc(1, 0, 3);
        x.alloc(2, 0, 3);
        x.alloc(3, 0, 3);
        x.link(0, 0, 2);
        letGo(x, 1, 2, 3);
        x.collect();
        Checks.due("pageState(0), pinned", x.pageState(0), 2);
        Checks.due("pageState(1), one moved and one discarded", x.pageState(1), 0);
        Checks.due("pageState(2), the open page, discarded", x.pageState(2), 0);
        Checks.due("pageState(3), taken", x.pageState(3), 1);
        letGo(x, 0);
        x.collect();
        for (int page = 0; page < 32; page++) {
            Checks.due("pageState(" + page + ")", x.pageState(page), 0);
        }
    }

    private static void promotesAndTakesPages() {
        Checks.sentence("Pinned pages are `PROMOTED`, pages taken during the call are `MOBILE`.");
        MostlyCopying x = new MostlyCopying(4, 60);
        x.alloc(0, 3, 0);
        x.alloc(1, 0, 3);
        for (int k = 0; k < 3; k++) {
            x.alloc(2, 0, 3);
            x.link(0, k, 2);
        }
        letGo(x, 1, 2);
        x.collect();
        int[] first = {2, 0, 0, 1, 1, 0};
        for (int page = 0; page < 6; page++) {
            Checks.due("pageState(" + page + ")", x.pageState(page), first[page]);
        }
        x.setRoot(0, 1024);
        x.setRoot(1, 1000);
        x.collect();
        int[] second = {2, 1, 0, 2, 0, 0};
        for (int page = 0; page < 6; page++) {
            Checks.due("pageState(" + page + ")", x.pageState(page), second[page]);
        }
        x.setRoot(0, 0);
        x.collect();
        // What page 3 held has moved to pages 2 and 4, which were free.
        int[] third = {2, 0, 1, 0, 1, 0};
        for (int page = 0; page < 6; page++) {
            Checks.due("pageState(" + page + ")", x.pageState(page), third[page]);
        }
    }

    private static void openPage() {
        Checks.sentence("The open page is the page of the last moved object; if none was moved "
                + "there is no open page, even if there was one before.");
    }

    private static void opensThePageOfTheLastMoved() {
        openPage();
        int[][] sizes = {{2, 2, 2}, {4, 3, 2}, {4, 4, 3}, {2, 2, 4}, {3, 3, 3}, {4, 4, 4}};
        int[] ends = {1022, 1034, 1035, 0, 1035, 1036};
        for (int n = 0; n < sizes.length; n++) {
            MostlyCopying x = new MostlyCopying(3, 60);
            x.alloc(0, 3, 0);
            x.alloc(1, 0, 3);
            for (int k = 0; k < 3; k++) {
                x.alloc(1, 0, sizes[n][k] - 1);
                x.link(0, k, 1);
            }
            letGo(x, 1);
            x.collect();
            Checks.due("openAddress(), sizes " + n, x.openAddress(), ends[n]);
            int next = ends[n] == 0 ? 1008 : ends[n];
            Checks.due("alloc(1, 0, 1) goes on there", x.alloc(1, 0, 1), next);
        }
    }

    private static void opensNoPageWhenNoneMoved() {
        openPage();
        MostlyCopying x = new MostlyCopying(2, 60);
        x.alloc(0, 0, 1);
        Checks.due("openAddress()", x.openAddress(), 1002);
        Checks.due("collect(), the open page is pinned", x.collect(), 0);
        Checks.due("openAddress()", x.openAddress(), 0);
        Checks.due("alloc(1, 0, 1), not on page 0", x.alloc(1, 0, 1), 1008);
        Checks.due("openAddress()", x.openAddress(), 1010);
        letGo(x, 1);
        Checks.due("collect(), the open page is freed", x.collect(), 1);
        Checks.due("openAddress()", x.openAddress(), 0);
        Checks.due("alloc(1, 0, 1)", x.alloc(1, 0, 1), 1008);
        letGo(x, 0, 1);
        Checks.due("collect(), nothing is left", x.collect(), 2);
        Checks.due("openAddress()", x.openAddress(), 0);
        Checks.due("alloc(1, 0, 1)", x.alloc(1, 0, 1), 1000);
    }

    private static void countsDiscardedObjects() {
        Checks.sentence("The answer is the number of discarded objects (0 or more).");
        for (int count = 0; count <= 30; count++) {
            MostlyCopying x = new MostlyCopying(2, 60);
            for (int n = 0; n < count; n++) {
                x.alloc(0, 0, 1);
            }
            letGo(x, 0);
            Checks.due("collect() of " + count, x.collect(), count);
            Checks.due("collect() once more", x.collect(), 0);
        }
        MostlyCopying y = new MostlyCopying(2, 60);
        for (int n = 0; n < 15; n++) {
            y.alloc(n == 0 ? 0 : 1, n == 0 ? 1 : 0, n == 0 ? 2 : 3);
        }
        y.link(0, 0, 1);
        letGo(y, 1);
        Checks.due("collect(), 2 pinned and 1 moved of 15", y.collect(), 12);
    }

    private static void keepsSerialsAndShapes() {
        Checks.sentence("Kept objects keep their serials, shapes and sizes.");
        for (int[] shape : Heaps.SHAPES) {
            MostlyCopying x = new MostlyCopying(3, 60);
            x.alloc(0, 2, 1);
            x.alloc(1, 0, 3);
            x.alloc(1, shape[0], shape[1]);
            x.alloc(2, shape[0], shape[1]);
            x.link(0, 0, 2);
            x.link(0, 1, 1);
            letGo(x, 1, 2);
            int size = 1 + shape[0] + shape[1];
            for (int round = 0; round < 4; round++) {
                Checks.due("collect()", x.collect(), 0);
                int start = round % 2 == 0 ? 1016 : 1008;
                for (int word = start; word < start + 8; word++) {
                    int nth = (word - start) / size;
                    int serial = nth == 0 ? 4 : nth == 1 ? 3 : 0;
                    Checks.due("serialAt(" + word + ")", x.serialAt(word), serial);
                    int want = serial == 0 ? 0 : 4 * shape[0] + shape[1];
                    Checks.due("shapeAt(" + word + ")", x.shapeAt(word), want);
                }
                Checks.due("shapeAt(1000)", x.shapeAt(1000), 9);
                Checks.due("serialAt(1000)", x.serialAt(1000), 1);
                Checks.due("wordsUsed()", x.wordsUsed(), 8 + 2 * size);
            }
        }
    }

    /** Eight pages pinned with two words each, and a chain that moves on and on. */
    private static void keepsThemForLong() {
        Checks.sentence("Kept objects keep their serials, shapes and sizes.");
        MostlyCopying x = new MostlyCopying(8, 60);
        for (int i = 0; i < 8; i++) {
            x.alloc(i, 1, 0);
            Checks.due("collect()", x.collect(), 0);
        }
        int last = x.root(6);
        for (int n = 0; n < 11; n++) {
            x.alloc(7, 1, n % 2 == 0 ? 1 : 2);
            x.setRoot(6, last);
            x.link(6, 0, 7);
            last = x.root(7);
        }
        x.setRoot(6, 1048);
        x.setRoot(7, 1056);
        int words = x.wordsUsed();
        for (int n = 0; n < 20; n++) {
            Checks.due("collect()", x.collect(), 0);
            Checks.due("wordsUsed()", x.wordsUsed(), words);
            int word = 1048;
            for (int serial = 9; serial < 20; serial++) {
                word = x.field(word, 0);
                Checks.due("serialAt(" + word + ")", x.serialAt(word), serial);
            }
        }
    }

    private static void givesNoSerialAgain() {
        Checks.sentence("The next serial does not change, and the serials of discarded objects are "
                + "not given again.");
        MostlyCopying x = new MostlyCopying(2, 60);
        for (int serial = 1; serial < 50; serial++) {
            Checks.due("alloc(0, 0, 1)", x.alloc(0, 0, 1), 1000);
            Checks.due("serialAt(1000)", x.serialAt(1000), serial);
            Checks.due("collect()", x.collect(), 0);
            letGo(x, 0);
            Checks.due("collect()", x.collect(), 1);
            Checks.due("collect()", x.collect(), 0);
            for (int gone = 1; gone <= serial; gone++) {
                Checks.due("addressOf(" + gone + ")", x.addressOf(gone), 0);
            }
        }
    }
}
