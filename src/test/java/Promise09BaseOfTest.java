import java.util.List;

public final class Promise09BaseOfTest {
    public static void main(String[] args) {
        Checks.sentence("`baseOf(word)` answers, for any int, the start of the object that `word` "
                + "is inside; 0 if it is inside none.");
        MostlyCopying x = WordReads.heap();
        List<Integer> before = Checks.state(x);
        for (int word : WordReads.words()) {
            int want = WordReads.objectAt(word)[0];
            Checks.due("baseOf(" + word + ")", x.baseOf(word), want);
        }
        Checks.unchanged("baseOf", x, before);
        onANewHeap();
        Checks.finish();
    }

    private static void onANewHeap() {
        MostlyCopying x = new MostlyCopying(2, 60);
        for (int word : WordReads.words()) {
            Checks.due("baseOf(" + word + ") of a new heap", x.baseOf(word), 0);
        }
    }
}
