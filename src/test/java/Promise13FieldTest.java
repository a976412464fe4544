import java.util.List;

public final class Promise13FieldTest {
    public static void main(String[] args) {
        answersContents();
        answersZeroElsewhere();
        Checks.finish();
    }

    private static void answersContents() {
        MostlyCopying x = new MostlyCopying(3, 60);
        x.alloc(0, 2, 1);
        x.alloc(1, 0, 3);
        x.link(0, 0, 1);
        x.link(0, 1, 0);
        x.put(0, 2, Integer.MIN_VALUE);
        x.put(1, 0, -3);
        x.put(1, 1, 1000);
        x.put(1, 2, Integer.MAX_VALUE);
        List<Integer> before = Checks.state(x);
        int[][] contents = {{1004, 1000, Integer.MIN_VALUE}, {-3, 1000, Integer.MAX_VALUE}};
        for (int word = 1000; word <= 1007; word++) {
            for (int k = 0; k < 3; k++) {
                int want = contents[(word - 1000) / 4][k];
                Checks.due("field(" + word + ", " + k + ")", x.field(word, k), want);
            }
        }
        Checks.unchanged("field", x, before);
    }

    /** Every field of the heap holds something, so that a 0 comes from no field at all. */
    private static void answersZeroElsewhere() {
        MostlyCopying x = WordReads.heap();
        for (int[] object : WordReads.OBJECTS) {
            x.setRoot(0, object[0]);
            for (int k = 0; k < 3; k++) {
                x.link(0, k, 0);
                x.put(0, k, 77);
            }
        }
        List<Integer> before = Checks.state(x);
        for (int word = 990; word < 1270; word++) {
            for (int k = -300; k < 300; k++) {
                check(x, word, k);
            }
            for (int k : Checks.FAR_INTS) {
                check(x, word, k);
            }
        }
        for (int word : Checks.FAR_INTS) {
            for (int k : Checks.FAR_INTS) {
                check(x, word, k);
            }
        }
        Checks.unchanged("field", x, before);
    }

    private static void check(MostlyCopying x, int word, int k) {
        int row = WordReads.rowOf(word);
        int want = 0;
        if (row >= 0 && k >= 0) {
            int[] object = WordReads.OBJECTS[row];
            if (k < object[2]) {
                want = object[0];
            } else if (k < object[2] + object[3]) {
                want = 77;
            }
        }
        Checks.due("field(" + word + ", " + k + ")", x.field(word, k), want);
    }
}
