public final class Promise12ShapeAtTest {
    public static void main(String[] args) {
        answers();
        WordReads.changeNothing("shapeAt", x -> {
            for (int word : WordReads.words()) {
                x.shapeAt(word);
            }
        });
        Checks.finish();
    }

    private static void answers() {
        Checks.sentence("`shapeAt(word)` answers, for any int, 4 * P + R of the object that `word` "
                + "is inside; 0 if it is inside none.");
        MostlyCopying empty = new MostlyCopying(2, 60);
        MostlyCopying x = WordReads.heap();
        for (int word : WordReads.words()) {
            Checks.due("shapeAt(" + word + ") of a new heap", empty.shapeAt(word), 0);
            int want = 4 * WordReads.objectAt(word)[2] + WordReads.objectAt(word)[3];
            Checks.due("shapeAt(" + word + ")", x.shapeAt(word), want);
        }
        for (int[] shape : Heaps.SHAPES) {
            ofOneShape(shape[0], shape[1]);
        }
    }

    private static void ofOneShape(int pointers, int raws) {
        MostlyCopying x = new MostlyCopying(2, 60);
        x.alloc(0, pointers, raws);
        for (int word = 999; word <= 1004; word++) {
            boolean inside = word >= 1000 && word <= 1000 + pointers + raws;
            int want = inside ? 4 * pointers + raws : 0;
            Checks.due("shapeAt(" + word + ")", x.shapeAt(word), want);
        }
    }
}
