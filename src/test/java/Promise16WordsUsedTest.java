import java.util.List;

public final class Promise16WordsUsedTest {
    public static void main(String[] args) {
        MostlyCopying x = new MostlyCopying(2, 60);
        Checks.due("wordsUsed()", x.wordsUsed(), 0);
        x.alloc(0, 1, 2);
        Checks.due("wordsUsed()", x.wordsUsed(), 4);
        x.alloc(0, 0, 2);
        Checks.due("wordsUsed()", x.wordsUsed(), 7);
        x.alloc(0, 1, 0);
        Checks.due("wordsUsed() without unused words", x.wordsUsed(), 9);
        x.setRoot(0, 0);
        List<Integer> before = Checks.state(x);
        Checks.due("wordsUsed() with unreachable objects", x.wordsUsed(), 9);
        Checks.unchanged("wordsUsed", x, before);
        Checks.due("refused alloc", x.alloc(0, 2, 2), -5);
        Checks.due("wordsUsed()", x.wordsUsed(), 9);
        x.setRoot(0, 1003);
        x.setRoot(1, 1008);
        x.link(0, 0, 1);
        x.setRoot(1, 0);
        Checks.due("collect(), one moves", x.collect(), 0);
        Checks.due("wordsUsed()", x.wordsUsed(), 9);
        x.link(0, 0, 1);
        Checks.due("collect(), one is discarded", x.collect(), 1);
        Checks.due("wordsUsed()", x.wordsUsed(), 7);
        for (int n = 0; n < 100; n++) {
            x.alloc(1, 0, n == 0 ? 2 : 1);
            Checks.that("never above the capacity", x.wordsUsed() <= 60);
        }
        Checks.due("wordsUsed() of a full heap", x.wordsUsed(), 60);
        Checks.finish();
    }
}
