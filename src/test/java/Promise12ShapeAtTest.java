import java.util.List;

public final class Promise12ShapeAtTest {
    public static void main(String[] args) {
        Checks.sentence("`shapeAt(word)` answers, for any int, 4 * P + R of the object that `word` "
                + "is inside; 0 if it is inside none.");
        MostlyCopying x = WordReads.heap();
        List<Integer> before = Checks.state(x);
        for (int word : WordReads.words()) {
            int want = 4 * WordReads.objectAt(word)[2] + WordReads.objectAt(word)[3];
            Checks.due("shapeAt(" + word + ")", x.shapeAt(word), want);
        }
        Checks.unchanged("shapeAt", x, before);
        ofEveryShape();
        Checks.finish();
    }

    private static void ofEveryShape() {
        for (int[] shape : Heaps.SHAPES) {
            MostlyCopying x = new MostlyCopying(2, 60);
            for (int word : WordReads.words()) {
                Checks.due("shapeAt(" + word + ") of a new heap", x.shapeAt(word), 0);
            }
            x.alloc(0, shape[0], shape[1]);
            for (int word = 999; word <= 1004; word++) {
                boolean inside = word >= 1000 && word <= 1000 + shape[0] + shape[1];
                int want = inside ? 4 * shape[0] + shape[1] : 0;
                Checks.due("shapeAt(" + word + ")", x.shapeAt(word), want);
            }
        }
    }
}
