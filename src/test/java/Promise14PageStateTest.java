public final class Promise14PageStateTest {
    public static void main(String[] args) {
        badPages();
        freePages();
        promotedPages();
        mobilePages();
        mobileBeforeTheFirstCollect();
        WordReads.changeNothing("pageState", x -> {
            for (int page = -40; page < 80; page++) {
                x.pageState(page);
            }
        });
        Checks.finish();
    }

    private static void badPages() {
        Checks.sentence("`BAD_PAGE` if `page` is below 0 or above 31;");
        MostlyCopying x = WordReads.heap();
        int[] bad = {
            Integer.MIN_VALUE, Integer.MIN_VALUE + 1, -32, -31, -2, -1, 32, 33, 63, 64, 255, 256,
            1000, 1255, 65536, Integer.MAX_VALUE - 1, Integer.MAX_VALUE
        };
        for (int page : bad) {
            Checks.due("pageState(" + page + ")", x.pageState(page), -8);
        }
        Checks.due("pageState(0), the first", x.pageState(0), 2);
        Checks.due("pageState(31), the last", x.pageState(31), 0);
    }

    private static void freePages() {
        Checks.sentence("`FREE` if the page is free;");
        MostlyCopying x = new MostlyCopying(3, 60);
        for (int page = 0; page < 32; page++) {
            Checks.due("pageState(" + page + ") at first", x.pageState(page), 0);
        }
        x.alloc(0, 0, 3);
        x.alloc(0, 0, 3);
        x.alloc(1, 0, 3);
        Checks.due("pageState(2), beyond the last", x.pageState(2), 0);
        x.collect();
        x.setRoot(0, 0);
        x.collect();
        Checks.due("pageState(0), promoted before", x.pageState(0), 0);
        x.setRoot(0, 1000);
        Checks.due("pageState(0), a root points there", x.pageState(0), 0);
        x.collect();
        Checks.due("pageState(0), a root points there", x.pageState(0), 0);
        Checks.due("pageState(1)", x.pageState(1), 2);
    }

    private static void promotedPages() {
        Checks.sentence("`PROMOTED` if it is in use and was pinned in the latest `collect()`;");
        MostlyCopying x = new MostlyCopying(3, 60);
        x.alloc(0, 1, 2);
        x.alloc(1, 0, 3);
        x.alloc(1, 0, 3);
        x.link(0, 0, 1);
        x.setRoot(1, 0);
        x.collect();
        Checks.due("pageState(0), pinned", x.pageState(0), 2);
        Checks.due("pageState(2), taken", x.pageState(2), 1);
        x.setRoot(0, 0);
        x.setRoot(1, 1016);
        x.setRoot(2, 1003);
        Checks.due("pageState(0), roots change no state", x.pageState(0), 2);
        Checks.due("pageState(2), roots change no state", x.pageState(2), 1);
        x.collect();
        Checks.due("pageState(0), pinned again", x.pageState(0), 2);
        Checks.due("pageState(2), pinned later", x.pageState(2), 2);
        x.setRoot(2, 0);
        Checks.due("pageState(0), pinned in the latest", x.pageState(0), 2);
        x.collect();
        Checks.due("pageState(0), not in the latest", x.pageState(0), 0);
        Checks.due("pageState(2), once more", x.pageState(2), 2);
    }

    private static void mobilePages() {
        Checks.sentence("`MOBILE` otherwise.");
        MostlyCopying x = new MostlyCopying(3, 60);
        x.alloc(0, 1, 2);
        x.alloc(1, 0, 3);
        x.alloc(1, 0, 3);
        x.link(0, 0, 1);
        x.collect();
        x.setRoot(1, 0);
        Checks.due("pageState(1), pinned", x.pageState(1), 2);
        x.collect();
        Checks.due("pageState(2), taken in collect", x.pageState(2), 1);
        x.collect();
        Checks.due("pageState(1), taken in collect, pinned once", x.pageState(1), 1);
        x.alloc(1, 0, 3);
        x.alloc(1, 0, 3);
        Checks.due("pageState(1), filled further", x.pageState(1), 1);
        Checks.due("pageState(2), taken in alloc", x.pageState(2), 1);
        x.collect();
        x.setRoot(0, 0);
        x.collect();
        x.setRoot(1, 0);
        Checks.due("alloc(0, 0, 1)", x.alloc(0, 0, 1), 1000);
        Checks.due("pageState(0), taken in alloc, pinned once", x.pageState(0), 1);
        x.setRoot(0, 0);
        x.setRoot(1, 1003);
        x.collect();
        Checks.due("alloc(0, 0, 3)", x.alloc(0, 0, 3), 1000);
        Checks.due("pageState(0), a root but no object was there", x.pageState(0), 1);
    }

    private static void mobileBeforeTheFirstCollect() {
        Checks.sentence("Before the first `collect()` every page in use is `MOBILE`.");
        MostlyCopying x = new MostlyCopying(8, 60);
        for (int n = 0; n < 15; n++) {
            x.alloc(n % 8, 0, 3);
            for (int page = 0; page < 32; page++) {
                int want = page <= n / 2 ? 1 : 0;
                Checks.due("pageState(" + page + ")", x.pageState(page), want);
            }
        }
    }
}
