public final class Promise16WordsUsedTest {
    public static void main(String[] args) {
        sumsAllPresentObjects();
        unusedWordsDoNotCount();
        neverAboveTheCapacity();
        WordReads.changeNothing("wordsUsed", MostlyCopying::wordsUsed);
        Checks.finish();
    }

    private static void sumsAllPresentObjects() {
        Checks.sentence("`wordsUsed()` answers the sum of the sizes of all present objects, "
                + "unreachable ones included.");
        MostlyCopying x = new MostlyCopying(2, 60);
        Checks.due("wordsUsed() of none", x.wordsUsed(), 0);
        int sum = 0;
        for (int[] shape : Heaps.SHAPES) {
            x.alloc(0, shape[0], shape[1]);
            sum += 1 + shape[0] + shape[1];
            Checks.due("wordsUsed()", x.wordsUsed(), sum);
            x.setRoot(0, 0);
            Checks.due("wordsUsed(), an unreachable one more", x.wordsUsed(), sum);
            x.alloc(0, 2, 2);
            x.alloc(2, 1, 0);
            Checks.due("wordsUsed(), refused allocs", x.wordsUsed(), sum);
        }
        x.collect();
        Checks.due("wordsUsed(), all discarded", x.wordsUsed(), 0);
    }

    /** Of three pages with gaps, the first is pinned, and the objects of the others move. */
    private static void unusedWordsDoNotCount() {
        Checks.sentence("Unused words of pages in use do not count.");
        MostlyCopying x = new MostlyCopying(3, 60);
        x.alloc(0, 2, 0);
        x.alloc(1, 0, 1);
        for (int k = 0; k < 2; k++) {
            x.alloc(1, 0, 3);
            x.alloc(2, 0, 1);
            x.link(0, k, 1);
        }
        Checks.due("wordsUsed() on pages with gaps", x.wordsUsed(), 17);
        x.setRoot(1, 0);
        x.setRoot(2, 0);
        Checks.due("collect()", x.collect(), 2);
        Checks.due("wordsUsed() after moves", x.wordsUsed(), 13);
        x.setRoot(1, 1000);
        Checks.due("collect()", x.collect(), 0);
        Checks.due("wordsUsed() after moves", x.wordsUsed(), 13);
        x.setRoot(2, 0);
        x.link(0, 0, 2);
        Checks.due("collect()", x.collect(), 1);
        Checks.due("wordsUsed()", x.wordsUsed(), 9);
    }

    private static void neverAboveTheCapacity() {
        Checks.sentence("The answer is never above the capacity.");
        for (int capacity = 16; capacity <= 60; capacity++) {
            MostlyCopying x = new MostlyCopying(2, capacity);
            for (int n = 0; n < 200; n++) {
                int[] shape = Heaps.SHAPES[n * 5 % 9];
                x.alloc(n % 2, shape[0], shape[1]);
                Checks.that("at most " + capacity + " words used", x.wordsUsed() <= capacity);
                if (n % 40 == 39) {
                    x.collect();
                }
            }
        }
    }
}
