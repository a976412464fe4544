import java.util.ArrayList;
import java.util.List;
import java.util.function.Consumer;

/** A heap for the promises that read through any int, with what lies at each of its words. */
final class WordReads {
    /** start, serial, pointers, raws of every object of heap(). */
    static final int[][] OBJECTS = {
        {1000, 1, 1, 0}, {1002, 2, 1, 1}, {1005, 3, 0, 1}, {1016, 5, 0, 3}, {1020, 6, 3, 0},
        {1024, 7, 2, 1}, {1028, 8, 1, 2}, {1008, 9, 2, 0}
    };

    private static final int[] NO_OBJECT = {0, 0, 0, 0};

    private WordReads() {
    }

    /** Pages 0, 2 and 3 are pinned, page 1 was freed and taken again. */
    static MostlyCopying heap() {
        MostlyCopying x = new MostlyCopying(4, 60);
        x.alloc(0, 1, 0);
        x.alloc(0, 1, 1);
        x.alloc(0, 0, 1);
        x.collect();
        x.alloc(3, 0, 3);
        x.setRoot(1, 1008);
        x.collect();
        x.alloc(1, 0, 3);
        x.alloc(1, 3, 0);
        x.alloc(2, 2, 1);
        x.alloc(2, 1, 2);
        x.setRoot(3, 0);
        x.collect();
        x.alloc(3, 2, 0);
        return x;
    }

    /** The heap goes on after these reading calls as it does without them. */
    static void changeNothing(String calls, Consumer<MostlyCopying> reading) {
        Checks.sentence("Nothing changes.");
        MostlyCopying x = heap();
        List<Integer> before = Checks.state(x);
        reading.accept(x);
        Checks.unchanged(calls, x, before);
        MostlyCopying y = heap();
        reading.accept(y);
        Heaps.goOnAlike(calls, y, heap());
    }

    /** The row of OBJECTS that the word is inside; zeros where it is inside none. */
    static int[] objectAt(int word) {
        for (int[] object : OBJECTS) {
            if (word >= object[0] && word - object[0] <= object[2] + object[3]) {
                return object;
            }
        }
        return NO_OBJECT;
    }

    /** Every address, the ints around the addresses, and ints far from them. */
    static List<Integer> words() {
        List<Integer> words = new ArrayList<>(Heaps.noAddresses());
        for (int word = 900; word < 1400; word++) {
            words.add(word);
        }
        return words;
    }
}
