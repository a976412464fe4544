import java.util.ArrayList;
import java.util.List;
import java.util.function.IntSupplier;

/** What the tests share: comparing answers, and the whole state that the public methods show. */
final class Checks {
    static final int[] FAR_INTS = {
        Integer.MIN_VALUE, Integer.MIN_VALUE + 1, -1000, -1, 0, 1, 7, 999, 1256, 4095, 4096,
        Integer.MAX_VALUE - 1, Integer.MAX_VALUE
    };

    private static String sentence = "";
    private static boolean told = true;
    private static int wrong = 0;

    static {
        // A call that throws is told with the sentence that it breaks, as a wrong answer is.
        Thread.setDefaultUncaughtExceptionHandler((thread, thrown) -> {
            wrong("threw " + thrown);
            thrown.printStackTrace();
        });
    }

    private Checks() {
    }

    /** The checks from here on are about this sentence of the document; a failure tells it. */
    static void sentence(String words) {
        sentence = words;
        told = false;
    }

    static void due(String call, int got, int want) {
        if (got != want) {
            wrong(call + " answered " + got + ", due is " + want);
        }
    }

    static void that(String what, boolean holds) {
        if (!holds) {
            wrong("does not hold: " + what);
        }
    }

    private static void wrong(String line) {
        wrong++;
        if (!told) {
            System.out.println("broken: \"" + sentence + "\"");
            told = true;
        }
        System.out.println("    " + line);
    }

    /** A call that is due to be refused: it answers its code and changes nothing that is seen. */
    static void refused(String call, MostlyCopying x, IntSupplier made, int code) {
        List<Integer> before = state(x);
        due(call, made.getAsInt(), code);
        unchanged("refused " + call, x, before);
    }

    /** Everything that can be seen of x, for telling whether a call changed something. */
    static List<Integer> state(MostlyCopying x) {
        List<Integer> seen = new ArrayList<>();
        for (int i = -1; i <= 8; i++) {
            seen.add(x.root(i));
        }
        for (int word = 999; word <= 1256; word++) {
            seen.add(x.baseOf(word));
            seen.add(x.serialAt(word));
            seen.add(x.shapeAt(word));
            for (int k = 0; k < 3; k++) {
                seen.add(x.field(word, k));
            }
        }
        for (int page = 0; page < 32; page++) {
            seen.add(x.pageState(page));
        }
        for (int serial = 1; serial <= 4095; serial++) {
            seen.add(x.addressOf(serial));
        }
        seen.add(x.openAddress());
        seen.add(x.wordsUsed());
        return seen;
    }

    static List<Integer> roots(MostlyCopying x) {
        return state(x).subList(0, 10);
    }

    /** The state without the roots, for the calls that change roots alone. */
    static List<Integer> heapState(MostlyCopying x) {
        List<Integer> seen = state(x);
        return seen.subList(10, seen.size());
    }

    static void unchanged(String call, MostlyCopying x, List<Integer> before) {
        that("nothing changes in " + call, state(x).equals(before));
    }

    static void heapUnchanged(String call, MostlyCopying x, List<Integer> before) {
        that("no object, field or page changes in " + call, heapState(x).equals(before));
    }

    static void rootsUnchanged(String call, MostlyCopying x, List<Integer> before) {
        that("no root changes in " + call, roots(x).equals(before));
    }

    /** One field of the object at this word has another content now, and nothing else is changed. */
    static void oneFieldChanges(String call, MostlyCopying x, List<Integer> before, int word) {
        List<Integer> after = state(x);
        int differences = 0;
        for (int n = 0; n < before.size(); n++) {
            differences += before.get(n).equals(after.get(n)) ? 0 : 1;
        }
        // The field is seen through each word of its object.
        int size = 1 + x.shapeAt(word) / 4 + x.shapeAt(word) % 4;
        due("number of things seen to change in " + call, differences, size);
    }

    static void finish() {
        System.out.println(wrong == 0 ? "all answers are as due" : wrong + " checks failed");
        if (wrong != 0) {
            System.exit(1);
        }
    }
}
