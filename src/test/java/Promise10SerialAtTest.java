import java.util.List;

public final class Promise10SerialAtTest {
    public static void main(String[] args) {
        Checks.sentence("`serialAt(word)` answers, for any int, the serial of the object that "
                + "`word` is inside; 0 if it is inside none.");
        MostlyCopying x = WordReads.heap();
        List<Integer> before = Checks.state(x);
        for (int word : WordReads.words()) {
            int want = WordReads.objectAt(word)[1];
            Checks.due("serialAt(" + word + ")", x.serialAt(word), want);
        }
        Checks.unchanged("serialAt", x, before);
        onANewHeap();
        Checks.finish();
    }

    private static void onANewHeap() {
        MostlyCopying x = new MostlyCopying(2, 60);
        for (int word : WordReads.words()) {
            Checks.due("serialAt(" + word + ") of a new heap", x.serialAt(word), 0);
        }
    }
}
