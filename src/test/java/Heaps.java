import java.util.ArrayList;
import java.util.List;

/** Heaps and ints that several tests need. */
final class Heaps {
    /** Every shape that an object can have: pointers, raws. */
    static final int[][] SHAPES = {
        {0, 1}, {0, 2}, {0, 3}, {1, 0}, {1, 1}, {1, 2}, {2, 0}, {2, 1}, {3, 0}
    };

    private Heaps() {
    }

    /** Objects of these sizes fill a new heap's first page up to u words, for u from 2 to 8. */
    static int[] sizesThatFill(int u) {
        int[][] sizes = {{2}, {3}, {4}, {2, 3}, {3, 3}, {4, 3}, {4, 4}};
        return sizes[u - 2];
    }

    /** Ints around the addresses, and ints that a mask or a wrap-around would take for one. */
    static List<Integer> noAddresses() {
        List<Integer> words = new ArrayList<>();
        for (int word : Checks.FAR_INTS) {
            words.add(word);
        }
        for (int step = 1; step <= 16; step++) {
            words.add(1000 - step);
            words.add(1255 + step);
        }
        for (int address : new int[] {1000, 1003, 1007}) {
            words.add(-address);
            words.add(~address);
            for (int bit = 8; bit < 32; bit++) {
                words.add(address + (1 << bit));
                words.add(address - (1 << bit));
            }
        }
        return words;
    }

    /** Indices that are bad when there are n roots. */
    static int[] badRoots(int n) {
        return new int[] {
            Integer.MIN_VALUE, Integer.MIN_VALUE + 1, -n, -2, -1, n, n + 1, 8, 9, 256, 65536,
            Integer.MAX_VALUE - 1, Integer.MAX_VALUE
        };
    }

    /** Ints k for which an object with so many fields has no field k. */
    static int[] badFields(int fields) {
        return new int[] {
            Integer.MIN_VALUE, Integer.MIN_VALUE + 1, -1001, -1000, -9, -8, -3, -2, -1, fields,
            fields + 1, fields + 2, 7, 8, 256, 1000, 65536, Integer.MAX_VALUE - 1,
            Integer.MAX_VALUE
        };
    }

    /** What no method shows, such as the next serial, is seen when a heap and its twin go on. */
    static void goOnAlike(String calls, MostlyCopying x, MostlyCopying twin) {
        Checks.that("it goes on as without the " + calls, future(x).equals(future(twin)));
    }

    /** Nothing is read before the end, for the case that a call which only looks does more. */
    private static List<Integer> future(MostlyCopying x) {
        List<Integer> answers = new ArrayList<>();
        for (int n = 0; n < 24; n++) {
            answers.add(x.alloc(n % 2, SHAPES[n % 9][0], SHAPES[n % 9][1]));
            answers.add(x.link(0, n % 3, 1));
            if (n % 4 == 3) {
                x.setRoot(n / 4 % 2, 0);
                answers.add(x.collect());
            }
        }
        answers.addAll(Checks.state(x));
        return answers;
    }

    /** A heap of capacity 16 whose serials are all given, with the `last` newest, each of `raws`. */
    static MostlyCopying spent(int last, int raws) {
        MostlyCopying x = new MostlyCopying(2, 16);
        for (int made = 0; made < 4095; made++) {
            if ((4095 - made) % last == 0) {
                x.setRoot(0, 0);
                x.collect();
            }
            x.alloc(0, 0, raws);
        }
        return x;
    }
}
