import java.util.ArrayList;
import java.util.List;

/** What the tests share: comparing answers, and the whole state that the public methods show. */
final class Checks {
    static final int[] FAR_INTS = {
        Integer.MIN_VALUE, Integer.MIN_VALUE + 1, -1000, -1, 0, 1, 7, 999, 1256, 4095, 4096,
        Integer.MAX_VALUE - 1, Integer.MAX_VALUE
    };

    private static int wrong = 0;

    private Checks() {
    }

    static void due(String call, int got, int want) {
        if (got != want) {
            wrong++;
            System.out.println(call + " answered " + got + ", due is " + want);
        }
    }

    static void that(String what, boolean holds) {
        if (!holds) {
            wrong++;
            System.out.println("does not hold: " + what);
        }
    }

    /** Everything that can be seen of x, for telling whether a call changed something. */
    static List<Integer> state(MostlyCopying x) {
        List<Integer> seen = new ArrayList<>();
        for (int i = -1; i <= 8; i++) {
            seen.add(x.root(i));
        }
        for (int word = 999; word <= 1256; word++) {
            seen.add(x.baseOf(word));
            seen.add(x.serialAt(word));
            seen.add(x.shapeAt(word));
            for (int k = 0; k < 3; k++) {
                seen.add(x.field(word, k));
            }
        }
        for (int page = 0; page < 32; page++) {
            seen.add(x.pageState(page));
        }
        for (int serial = 1; serial <= 4095; serial++) {
            seen.add(x.addressOf(serial));
        }
        seen.add(x.openAddress());
        seen.add(x.wordsUsed());
        return seen;
    }

    /** The state without the roots, for the calls that change roots alone. */
    static List<Integer> heapState(MostlyCopying x) {
        List<Integer> seen = state(x);
        return seen.subList(10, seen.size());
    }

    static void unchanged(String call, MostlyCopying x, List<Integer> before) {
        that("nothing changes in " + call, state(x).equals(before));
    }

    static void heapUnchanged(String call, MostlyCopying x, List<Integer> before) {
        that("no object, field or page changes in " + call, heapState(x).equals(before));
    }

    static void finish() {
        System.out.println(wrong == 0 ? "all answers are as due" : wrong + " checks failed");
        if (wrong != 0) {
            System.exit(1);
        }
    }
}
