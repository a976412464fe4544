/** A heap for the promises that read through any int, with what lies at each of its words. */
final class WordReads {
    /** start, serial, pointers, raws of every object of heap(). */
    static final int[][] OBJECTS = {
        {1000, 1, 1, 0}, {1002, 2, 1, 1}, {1005, 3, 0, 1}, {1016, 5, 0, 3}, {1020, 6, 3, 0},
        {1024, 7, 2, 1}, {1028, 8, 1, 2}, {1008, 9, 2, 0}
    };

    private WordReads() {
    }

    /** Pages 0, 2 and 3 are pinned, page 1 was freed and taken again. */
    static MostlyCopying heap() {
        MostlyCopying x = new MostlyCopying(4, 60);
        x.alloc(0, 1, 0);
        x.alloc(0, 1, 1);
        x.alloc(0, 0, 1);
        x.collect();
        x.alloc(3, 0, 3);
        x.setRoot(1, 1008);
        x.collect();
        x.alloc(1, 0, 3);
        x.alloc(1, 3, 0);
        x.alloc(2, 2, 1);
        x.alloc(2, 1, 2);
        x.setRoot(3, 0);
        x.collect();
        x.alloc(3, 2, 0);
        return x;
    }

    /** The row of OBJECTS that the word is inside, or -1. */
    static int rowOf(int word) {
        for (int row = 0; row < OBJECTS.length; row++) {
            int[] o = OBJECTS[row];
            if (word >= o[0] && word - o[0] <= o[2] + o[3]) {
                return row;
            }
        }
        return -1;
    }
}
