public final class Promise13FieldTest {
    public static void main(String[] args) {
        answersContents();
        answersZeroElsewhere();
        takesAnyInts();
        WordReads.changeNothing("field", x -> {
            for (int word : WordReads.words()) {
                for (int k = -3; k <= 6; k++) {
                    x.field(word, k);
                }
            }
        });
        Checks.finish();
    }

    private static void contents() {
        Checks.sentence("`field(word, k)` answers the content of field k, pointer or raw, of the "
                + "object that `word` is inside; 0 if `word` is inside no object or that object "
                + "has no field k.");
    }

    private static void answersContents() {
        contents();
        MostlyCopying x = new MostlyCopying(3, 60);
        x.alloc(0, 2, 1);
        x.alloc(1, 0, 3);
        x.link(0, 0, 1);
        x.link(0, 1, 0);
        x.put(0, 2, Integer.MIN_VALUE);
        x.put(1, 0, -3);
        x.put(1, 1, 1000);
        x.put(1, 2, Integer.MAX_VALUE);
        int[][] contents = {{1004, 1000, Integer.MIN_VALUE}, {-3, 1000, Integer.MAX_VALUE}};
        for (int word = 1000; word <= 1007; word++) {
            for (int k = 0; k < 3; k++) {
                int want = contents[(word - 1000) / 4][k];
                Checks.due("field(" + word + ", " + k + ")", x.field(word, k), want);
            }
        }
    }

    /** Every field of this heap holds something, so that a 0 comes from no field at all. */
    private static MostlyCopying filled() {
        MostlyCopying x = WordReads.heap();
        for (int[] object : WordReads.OBJECTS) {
            x.setRoot(0, object[0]);
            for (int k = 0; k < 3; k++) {
                x.link(0, k, 0);
                x.put(0, k, 77);
            }
        }
        return x;
    }

    private static void answersZeroElsewhere() {
        contents();
        MostlyCopying x = filled();
        for (int word : WordReads.words()) {
            for (int k = -3; k <= 6; k++) {
                check(x, word, k);
            }
        }
    }

    private static void takesAnyInts() {
        Checks.sentence("Both arguments may be any int.");
        MostlyCopying x = filled();
        for (int word : WordReads.words()) {
            for (int k = -300; k < 300; k += 7) {
                check(x, word, k);
            }
            for (int k : Heaps.badFields(3)) {
                check(x, word, k);
            }
            // A wrong sum of the two would come back to a word in use.
            check(x, word, 1000 - word - 1);
            check(x, word, 2000 - word - 1);
        }
    }

    private static void check(MostlyCopying x, int word, int k) {
        int[] object = WordReads.objectAt(word);
        int want = 0;
        if (k >= 0 && k < object[2]) {
            want = object[0];
        } else if (k >= 0 && k < object[2] + object[3]) {
            want = 77;
        }
        Checks.due("field(" + word + ", " + k + ")", x.field(word, k), want);
    }
}
