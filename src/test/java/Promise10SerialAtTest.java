import java.util.List;

public final class Promise10SerialAtTest {
    public static void main(String[] args) {
        MostlyCopying x = WordReads.heap();
        List<Integer> before = Checks.state(x);
        for (int word = 900; word < 1400; word++) {
            check(x, word);
        }
        for (int word : Checks.FAR_INTS) {
            check(x, word);
        }
        Checks.unchanged("serialAt", x, before);
        Checks.finish();
    }

    private static void check(MostlyCopying x, int word) {
        int row = WordReads.rowOf(word);
        int want = row < 0 ? 0 : WordReads.OBJECTS[row][1];
        Checks.due("serialAt(" + word + ")", x.serialAt(word), want);
    }
}
