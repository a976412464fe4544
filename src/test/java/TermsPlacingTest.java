import java.util.ArrayList;
import java.util.List;

/** The terms about free pages, the open page and placing. */
public final class TermsPlacingTest {
    public static void main(String[] args) {
        freeAndInUse();
        oneOpenPageOrNone();
        openPageHasNoGaps();
        fillsTheOpenPage();
        takesTheLowestPage();
        everyFreePageInAlloc();
        alwaysAPageToTake();
        Checks.finish();
    }

    private static void freeAndInUse() {
        Checks.sentence("A page is *free* when no present object lies on it; otherwise it is *in "
                + "use*.");
        MostlyCopying x = new MostlyCopying(2, 60);
        Checks.due("pageState(0), nothing there", x.pageState(0), 0);
        x.alloc(0, 0, 1);
        Checks.due("pageState(0), one object there", x.pageState(0), 1);
        Checks.due("pageState(1)", x.pageState(1), 0);
        x.setRoot(0, 0);
        Checks.due("pageState(0), an unreachable object", x.pageState(0), 1);
        x.collect();
        Checks.due("pageState(0), discarded", x.pageState(0), 0);
        Checks.due("alloc(0, 0, 1), page 0 may be taken", x.alloc(0, 0, 1), 1000);
    }

    private static void oneOpenPageOrNone() {
        Checks.sentence("At any moment there is one *open page* or none.");
        MostlyCopying x = new MostlyCopying(2, 60);
        x.alloc(0, 0, 3);
        x.alloc(0, 0, 1);
        x.alloc(0, 0, 3);
        Checks.due("openAddress(), page 1 alone is open", x.openAddress(), 1012);
        Checks.due("alloc(0, 0, 1), not on page 0", x.alloc(0, 0, 1), 1012);
        Checks.due("alloc(0, 0, 1), not on page 0", x.alloc(0, 0, 1), 1014);
        Checks.due("openAddress(), page 1 is full", x.openAddress(), 0);
        Checks.due("alloc(0, 0, 1), not on page 0", x.alloc(0, 0, 1), 1016);
        x.setRoot(0, 1000);
        Checks.due("collect()", x.collect(), 4);
        Checks.due("openAddress(), none", x.openAddress(), 0);
        Checks.due("alloc(0, 0, 1), not on page 0", x.alloc(0, 0, 1), 1008);
    }

    private static void openPageHasNoGaps() {
        Checks.sentence("The open page is in use, and its objects fill it without gaps from its "
                + "first word on.");
        MostlyCopying x = new MostlyCopying(3, 60);
        x.alloc(0, 1, 1);
        x.alloc(0, 1, 1);
        x.alloc(1, 0, 2);
        x.link(0, 0, 1);
        x.setRoot(1, 0);
        for (int n = 0; n < 30; n++) {
            if (n % 3 == 0) {
                x.setRoot(1, 0);
                x.collect();
            } else {
                x.alloc(1, 0, 1 + n % 2);
            }
            int end = x.openAddress();
            int page = (end - 1000) / 8;
            if (end != 0) {
                Checks.that("page " + page + " is in use", x.pageState(page) != 0);
                for (int word = 1000 + 8 * page; word < 1000 + 8 * page + 8; word++) {
                    Checks.that("no gap at " + word, x.baseOf(word) != 0 == word < end);
                }
            }
        }
    }

    private static void fillsTheOpenPage() {
        Checks.sentence("**To place** an object of size s: if there is an open page and u words of "
                + "it are occupied, with u + s <= 8, the object starts at the open page's first "
                + "address plus u.");
        for (int u = 2; u <= 8; u++) {
            for (int s = 2; s <= 4; s++) {
                fillsInAlloc(u, s);
                fillsInCollect(u, s);
            }
        }
    }

    private static void fillsInAlloc(int u, int s) {
        MostlyCopying x = new MostlyCopying(2, 60);
        for (int size : Heaps.sizesThatFill(u)) {
            x.alloc(0, 0, size - 1);
        }
        int want = u + s <= 8 ? 1000 + u : 1008;
        Checks.due("alloc of " + s + " behind " + u, x.alloc(1, 0, s - 1), want);
    }

    private static void fillsInCollect(int u, int s) {
        MostlyCopying x = new MostlyCopying(2, 60);
        x.alloc(0, 3, 0);
        x.alloc(1, 0, 3);
        int k = 0;
        for (int size : Heaps.sizesThatFill(u)) {
            x.alloc(1, 0, size - 1);
            x.link(0, k, 1);
            k++;
        }
        x.alloc(1, 0, s - 1);
        x.link(0, k, 1);
        x.setRoot(1, 0);
        x.collect();
        int first = u + s <= 8 ? 1016 : 1024;
        int want = u + s <= 8 ? first + u : first + 8;
        Checks.due("start in the first fresh page", x.field(1000, 0), first);
        Checks.due("moved to, " + s + " behind " + u, x.field(1000, k), want);
    }

    private static void takesTheLowestPage() {
        Checks.sentence("Otherwise the lowest-numbered page that may be taken becomes the open "
                + "page, and the object starts at its first address; a former open page is then "
                + "not open any more, and its unused words stay unused.");
        MostlyCopying x = new MostlyCopying(4, 60);
        for (int n = 0; n < 6; n++) {
            x.alloc(n / 2, 0, 3);
        }
        x.setRoot(1, 0);
        Checks.due("collect(), page 1 becomes free", x.collect(), 2);
        Checks.due("alloc takes page 1", x.alloc(3, 0, 3), 1008);
        Checks.due("openAddress()", x.openAddress(), 1012);
        Checks.due("alloc of 2 words", x.alloc(3, 0, 1), 1012);
        Checks.due("alloc of 3 words takes page 3", x.alloc(3, 0, 2), 1024);
        Checks.due("openAddress()", x.openAddress(), 1027);
        Checks.due("alloc of 2 words, page 1 is open no more", x.alloc(3, 0, 1), 1027);
        Checks.due("alloc of 3 words", x.alloc(3, 0, 2), 1029);
        Checks.due("alloc of 2 words takes page 4", x.alloc(3, 0, 1), 1032);
        Checks.due("baseOf(1014), unused", x.baseOf(1014), 0);
        Checks.due("baseOf(1015), unused", x.baseOf(1015), 0);
        MostlyCopying y = new MostlyCopying(2, 60);
        y.alloc(0, 1, 2);
        y.alloc(1, 0, 3);
        y.alloc(1, 0, 3);
        y.link(0, 0, 1);
        y.setRoot(1, 0);
        y.collect();
        Checks.due("openAddress(), page 2 is open", y.openAddress(), 1020);
        Checks.due("alloc of 3 words", y.alloc(1, 0, 2), 1020);
        Checks.due("alloc of 2 words takes page 1, below", y.alloc(1, 0, 1), 1008);
        Checks.due("alloc of 2 words, page 1 is open now", y.alloc(1, 0, 1), 1010);
    }

    private static void everyFreePageInAlloc() {
        Checks.sentence("In `alloc` every free page may be taken; for `collect` see Promise 7.");
        MostlyCopying x = new MostlyCopying(8, 60);
        for (int n = 0; n < 14; n++) {
            x.alloc(n / 2, 0, 3);
        }
        x.setRoot(1, 0);
        x.setRoot(3, 0);
        x.setRoot(5, 0);
        Checks.due("collect(), pages 1, 3 and 5 become free", x.collect(), 6);
        int[] starts = {1008, 1012, 1024, 1028, 1040, 1044, 1056};
        for (int start : starts) {
            Checks.due("alloc(7, 0, 3)", x.alloc(7, 0, 3), start);
        }
    }

    /**
     * As far as the limits let it come: eight pinned pages of one small object each and the
     * remaining 44 words in eight more pages, of which all but one object move to ten fresh ones.
     */
    private static void alwaysAPageToTake() {
        Checks.sentence("The limits on capacity, roots and object sizes ensure that there always is "
                + "a page to take, in `alloc` and in `collect`: at most 8 pinned pages plus 12 "
                + "pages filled in sequence are in use, and at most 12 fresh ones are needed.");
        int[] made = {2, 2, 2, 3, 2, 4, 2, 3, 2, 4, 2, 3, 2, 4, 3, 4};
        int[] moved = {2, 2, 2, 2, 2, 2, 2, 2, 2, 3, 4, 2, 3, 2, 4, 2, 3, 2, 4, 2, 3, 2, 4};
        MostlyCopying x = new MostlyCopying(8, 60);
        List<Integer> starts = new ArrayList<>();
        for (int i = 0; i < 8; i++) {
            starts.add(x.alloc(i, 1, 0));
            x.collect();
        }
        Checks.due("start of the last pinned object", starts.get(7), 1056);
        List<Integer> packed = pack(made, 8);
        for (int n = 0; n < made.length; n++) {
            int start = x.alloc(7, 1, made[n] - 2);
            Checks.due("start of object " + (n + 9), start, packed.get(n));
            starts.add(start);
        }
        Checks.due("wordsUsed()", x.wordsUsed(), 60);
        Checks.due("pages in use", pagesInUse(x), 16);
        int[] chain = chainOf(x, starts, moved);
        for (int i = 0; i < 8; i++) {
            x.setRoot(i, i == 0 ? 1000 : 0);
        }
        Checks.due("collect()", x.collect(), 0);
        List<Integer> fresh = pack(moved, 16);
        for (int n = 0; n < moved.length; n++) {
            String call = "addressOf(" + chain[n] + "), moved as number " + n;
            Checks.due(call, x.addressOf(chain[n]), fresh.get(n));
        }
        Checks.due("pages in use", pagesInUse(x), 11);
        Checks.due("pageState(25)", x.pageState(25), 1);
        Checks.due("wordsUsed()", x.wordsUsed(), 60);
    }

    /** Links all objects into a chain from the first, in the order of these sizes: their serials. */
    private static int[] chainOf(MostlyCopying x, List<Integer> starts, int[] sizes) {
        List<Integer> left = new ArrayList<>(starts.subList(1, starts.size()));
        int[] serials = new int[sizes.length];
        int last = starts.get(0);
        for (int n = 0; n < sizes.length; n++) {
            int next = 0;
            for (int start : left) {
                next = x.shapeAt(start) == 4 + sizes[n] - 2 && next == 0 ? start : next;
            }
            left.remove(Integer.valueOf(next));
            x.setRoot(0, last);
            x.setRoot(1, next);
            Checks.due("link(0, 0, 1)", x.link(0, 0, 1), 0);
            serials[n] = x.serialAt(next);
            last = next;
        }
        Checks.due("objects left out of the chain", left.size(), 0);
        return serials;
    }

    /** Where objects of these sizes lie when placed one by one, from the given page on. */
    private static List<Integer> pack(int[] sizes, int firstPage) {
        List<Integer> starts = new ArrayList<>();
        int at = 1000 + 8 * firstPage;
        for (int size : sizes) {
            if (at % 8 + size > 8) {
                at += 8 - at % 8;
            }
            starts.add(at);
            at += size;
        }
        return starts;
    }

    private static int pagesInUse(MostlyCopying x) {
        int inUse = 0;
        for (int page = 0; page < 32; page++) {
            inUse += x.pageState(page) != 0 ? 1 : 0;
        }
        return inUse;
    }
}
