/**
 * A small managed heap with a mostly-copying collector: pages that an ambiguous root points into
 * stay where they are, everything else that is still reachable moves to fresh pages.
 */
public final class MostlyCopying {
    public static final int ORIGIN = 1000;
    public static final int PAGES = 32;
    public static final int PAGE_WORDS = 8;
    public static final int LAST_SERIAL = 4095;

    public static final int OK = 0;
    public static final int BAD_ROOT = -1;
    public static final int NO_OBJECT = -2;
    public static final int BAD_FIELD = -3;
    public static final int WRONG_KIND = -4;
    public static final int BAD_SHAPE = -5;
    public static final int FULL = -6;
    public static final int SPENT = -7;
    public static final int BAD_PAGE = -8;

    public static final int FREE = 0;
    public static final int MOBILE = 1;
    public static final int PROMOTED = 2;

    private static final int HEAP_WORDS = PAGES * PAGE_WORDS;
    private static final int LEAST_ROOTS = 2;
    private static final int MOST_ROOTS = 8;
    private static final int LEAST_CAPACITY = 16;
    private static final int MOST_CAPACITY = 60;
    private static final int MOST_FIELDS = 3;
    private static final int LEAST_SIZE = 2;
    private static final int MOST_OBJECTS = MOST_CAPACITY / LEAST_SIZE;
    private static final int SERIAL_SLOTS = LAST_SERIAL + 1;
    private static final int NO_PAGE = -1;

    // Serial 0 stands for "no object". Its slot in the tables below stays 0 for good, so that it
    // has start 0 and no fields, which is what the document answers for a missing object.
    private static final int NOBODY = 0;

    private final int rootCount;
    private final int wordLimit;
    private final int[] rootWords = new int[MOST_ROOTS];

    private final int[] words = new int[HEAP_WORDS];
    private final int[] owners = new int[HEAP_WORDS];

    private final int[] starts = new int[SERIAL_SLOTS];
    private final int[] pointerCounts = new int[SERIAL_SLOTS];
    private final int[] rawCounts = new int[SERIAL_SLOTS];

    private final int[] occupied = new int[PAGES];
    private final boolean[] pinned = new boolean[PAGES];
    private final boolean[] condemned = new boolean[PAGES];

    private final int[] kept = new int[MOST_OBJECTS];
    private int keptCount = 0;

    private int openPage = NO_PAGE;
    private int serialsGiven = 0;
    private int usedWords = 0;

    public MostlyCopying(int roots, int capacity) {
        rootCount = clamp(roots, LEAST_ROOTS, MOST_ROOTS);
        wordLimit = clamp(capacity, LEAST_CAPACITY, MOST_CAPACITY);
    }

    public int setRoot(int i, int word) {
        if (isBadRoot(i)) {
            return BAD_ROOT;
        }
        rootWords[i] = word;
        return OK;
    }

    public int alloc(int i, int pointers, int raws) {
        if (isBadRoot(i)) {
            return BAD_ROOT;
        }
        if (isBadShape(pointers, raws)) {
            return BAD_SHAPE;
        }
        int size = 1 + pointers + raws;
        if (usedWords + size > wordLimit) {
            return FULL;
        }
        if (serialsGiven >= LAST_SERIAL) {
            return SPENT;
        }
        int start = place(size);
        serialsGiven++;
        pointerCounts[serialsGiven] = pointers;
        rawCounts[serialsGiven] = raws;
        settle(serialsGiven, start);
        clearWords(start, size);
        usedWords += size;
        rootWords[i] = start;
        return start;
    }

    public int put(int i, int k, int value) {
        if (isBadRoot(i)) {
            return BAD_ROOT;
        }
        int serial = ownerOf(rootWords[i]);
        if (serial == NOBODY) {
            return NO_OBJECT;
        }
        if (lacksField(serial, k)) {
            return BAD_FIELD;
        }
        if (k < pointerCounts[serial]) {
            return WRONG_KIND;
        }
        words[fieldIndex(serial, k)] = value;
        return OK;
    }

    public int link(int i, int k, int j) {
        if (isBadRoot(i) || isBadRoot(j)) {
            return BAD_ROOT;
        }
        int serial = ownerOf(rootWords[i]);
        if (serial == NOBODY) {
            return NO_OBJECT;
        }
        if (lacksField(serial, k)) {
            return BAD_FIELD;
        }
        if (k >= pointerCounts[serial]) {
            return WRONG_KIND;
        }
        int target = ownerOf(rootWords[j]);
        if (target == NOBODY && rootWords[j] != 0) {
            return NO_OBJECT;
        }
        words[fieldIndex(serial, k)] = starts[target];
        return OK;
    }

    public int load(int j, int i, int k) {
        if (isBadRoot(j) || isBadRoot(i)) {
            return BAD_ROOT;
        }
        int serial = ownerOf(rootWords[i]);
        if (serial == NOBODY) {
            return NO_OBJECT;
        }
        if (lacksField(serial, k)) {
            return BAD_FIELD;
        }
        rootWords[j] = words[fieldIndex(serial, k)];
        return OK;
    }

    public int collect() {
        pinPages();
        condemnPages();
        keepPinnedObjects();
        keepReachableObjects();
        moveKeptObjects();
        redirectPointers();
        return emptyCondemnedPages();
    }

    public int root(int i) {
        return isBadRoot(i) ? 0 : rootWords[i];
    }

    public int baseOf(int word) {
        return starts[ownerOf(word)];
    }

    public int serialAt(int word) {
        return ownerOf(word);
    }

    public int addressOf(int serial) {
        if (serial < 1 || serial > LAST_SERIAL) {
            return 0;
        }
        return starts[serial];
    }

    public int shapeAt(int word) {
        int serial = ownerOf(word);
        return 4 * pointerCounts[serial] + rawCounts[serial];
    }

    public int field(int word, int k) {
        int serial = ownerOf(word);
        return lacksField(serial, k) ? 0 : words[fieldIndex(serial, k)];
    }

    public int pageState(int page) {
        if (page < 0 || page >= PAGES) {
            return BAD_PAGE;
        }
        if (occupied[page] == 0) {
            return FREE;
        }
        return pinned[page] ? PROMOTED : MOBILE;
    }

    public int openAddress() {
        if (openPage == NO_PAGE || occupied[openPage] >= PAGE_WORDS) {
            return 0;
        }
        return firstAddress(openPage) + occupied[openPage];
    }

    public int wordsUsed() {
        return usedWords;
    }

    private static int clamp(int value, int least, int most) {
        if (value < least) {
            return least;
        }
        return value > most ? most : value;
    }

    private boolean isBadRoot(int i) {
        return i < 0 || i >= rootCount;
    }

    private static boolean isBadShape(int pointers, int raws) {
        // Each count is bounded before they are added, so that the sum can't wrap around.
        if (pointers < 0 || pointers > MOST_FIELDS || raws < 0 || raws > MOST_FIELDS) {
            return true;
        }
        int fields = pointers + raws;
        return fields < 1 || fields > MOST_FIELDS;
    }

    private static int firstAddress(int page) {
        return ORIGIN + page * PAGE_WORDS;
    }

    private static int pageOf(int address) {
        return (address - ORIGIN) / PAGE_WORDS;
    }

    private int ownerOf(int word) {
        if (word < ORIGIN || word >= ORIGIN + HEAP_WORDS) {
            return NOBODY;
        }
        return owners[word - ORIGIN];
    }

    private int sizeOf(int serial) {
        return 1 + pointerCounts[serial] + rawCounts[serial];
    }

    private boolean lacksField(int serial, int k) {
        return k < 0 || k >= pointerCounts[serial] + rawCounts[serial];
    }

    private int fieldIndex(int serial, int k) {
        return starts[serial] - ORIGIN + 1 + k;
    }

    private int place(int size) {
        if (openPage != NO_PAGE && occupied[openPage] + size <= PAGE_WORDS) {
            int start = firstAddress(openPage) + occupied[openPage];
            occupied[openPage] += size;
            return start;
        }
        openPage = lowestFreePage();
        occupied[openPage] = size;
        return firstAddress(openPage);
    }

    private int lowestFreePage() {
        // At most 20 pages are in use before a call and at most 12 are taken in it, so the last
        // page is free whenever all the others are not.
        int last = PAGES - 1;
        for (int page = 0; page < last; page++) {
            if (occupied[page] == 0) {
                return page;
            }
        }
        return last;
    }

    private void settle(int serial, int start) {
        int first = start - ORIGIN;
        int size = sizeOf(serial);
        for (int w = 0; w < size; w++) {
            owners[first + w] = serial;
        }
        starts[serial] = start;
    }

    private void clearWords(int start, int size) {
        // A page that was in use before still holds the ints of discarded or moved objects.
        int first = start - ORIGIN;
        for (int w = 0; w < size; w++) {
            words[first + w] = 0;
        }
    }

    private void pinPages() {
        for (int page = 0; page < PAGES; page++) {
            pinned[page] = false;
        }
        for (int i = 0; i < rootCount; i++) {
            int word = rootWords[i];
            if (ownerOf(word) != NOBODY) {
                pinned[pageOf(word)] = true;
            }
        }
    }

    private void condemnPages() {
        // Noted before anything moves: pages taken later in the same collection must survive it.
        for (int page = 0; page < PAGES; page++) {
            condemned[page] = occupied[page] != 0 && !pinned[page];
        }
    }

    private void keepPinnedObjects() {
        keptCount = 0;
        for (int at = 0; at < HEAP_WORDS; at++) {
            if (pinned[at / PAGE_WORDS]) {
                keep(owners[at]);
            }
        }
    }

    private void keepReachableObjects() {
        // keep() lengthens the list while this loop goes through it.
        for (int at = 0; at < MOST_OBJECTS && at < keptCount; at++) {
            int serial = kept[at];
            int pointers = pointerCounts[serial];
            for (int k = 0; k < pointers; k++) {
                int index = fieldIndex(serial, k);
                int target = ownerOf(words[index]);
                keep(target);
            }
        }
    }

    private void keep(int serial) {
        // No more than MOST_OBJECTS are ever present, so the full list turns nobody away.
        if (serial == NOBODY || isKept(serial) || keptCount >= MOST_OBJECTS) {
            return;
        }
        kept[keptCount] = serial;
        keptCount++;
    }

    private boolean isKept(int serial) {
        int count = keptCount;
        for (int at = 0; at < count; at++) {
            if (kept[at] == serial) {
                return true;
            }
        }
        return false;
    }

    private void moveKeptObjects() {
        openPage = NO_PAGE;
        int count = keptCount;
        for (int at = 0; at < count; at++) {
            int serial = kept[at];
            if (condemned[pageOf(starts[serial])]) {
                move(serial);
            }
        }
    }

    private void move(int serial) {
        // The old words keep their owner: redirectPointers() finds the moved object through it,
        // and the old page counts as in use, so that nothing is placed there.
        int from = starts[serial] - ORIGIN;
        int size = sizeOf(serial);
        int start = place(size);
        int to = start - ORIGIN;
        for (int w = 0; w < size; w++) {
            words[to + w] = words[from + w];
        }
        settle(serial, start);
    }

    private void redirectPointers() {
        int count = keptCount;
        for (int at = 0; at < count; at++) {
            int serial = kept[at];
            int pointers = pointerCounts[serial];
            for (int k = 0; k < pointers; k++) {
                int index = fieldIndex(serial, k);
                int target = ownerOf(words[index]);
                words[index] = starts[target];
            }
        }
    }

    private int emptyCondemnedPages() {
        int discarded = 0;
        for (int page = 0; page < PAGES; page++) {
            if (condemned[page]) {
                discarded += emptyPage(page);
            }
        }
        return discarded;
    }

    private int emptyPage(int page) {
        int discarded = 0;
        int first = firstAddress(page);
        int end = first + PAGE_WORDS;
        for (int address = first; address < end; address++) {
            int serial = ownerOf(address);
            // An object that moved has its start elsewhere by now, so only the others match.
            if (serial != NOBODY && starts[serial] == address) {
                starts[serial] = 0;
                usedWords -= sizeOf(serial);
                discarded++;
            }
            owners[address - ORIGIN] = NOBODY;
        }
        occupied[page] = 0;
        return discarded;
    }
}
