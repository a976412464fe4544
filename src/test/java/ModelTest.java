/** Long runs of calls on the class and on the model: every answer and all that is seen must agree. */
public final class ModelTest {
    private static final int RUNS = 400;
    private static final int CALLS = 400;
    private static final int LONG_RUN_CALLS = 40000;

    // A fixed linear congruential sequence, so that every run of the test is the same.
    private static long seed = 20261115L;
    private static int mostPagesInUse = 0;
    private static int spentAnswers = 0;
    private static int moves = 0;

    public static void main(String[] args) {
        for (int run = 0; run < RUNS; run++) {
            int roots = below(12) - 1;
            int capacity = below(4) == 0 ? below(90) : 60;
            run("run " + run, roots, capacity, CALLS, below(100), below(60));
        }
        run("long run", 8, 30, LONG_RUN_CALLS, 0, 20);
        // The sequence of calls is fixed, so these can only fail when the runs are rewritten badly.
        Checks.that("some run has many pages in use", mostPagesInUse >= 10);
        Checks.that("collections move objects often", moves >= 5000);
        Checks.that("the long run spends all serials", spentAnswers > 0);
        Checks.finish();
    }

    private static int below(int bound) {
        seed = seed * 6364136223846793005L + 1442695040888963407L;
        return (int) ((seed >>> 33) % bound);
    }

    private static void run(
            String name, int roots, int capacity, int calls, int growShare, int collectShare) {
        MostlyCopying x = new MostlyCopying(roots, capacity);
        Model y = new Model(roots, capacity);
        for (int call = 0; call < calls; call++) {
            step(name + ", call " + call + ": ", x, y, growShare, collectShare);
            if (calls <= CALLS || call % 100 == 0) {
                compare(name + ", after call " + call + ": ", x, y);
            }
        }
        compareAllSerials(name + ": ", x, y);
        moves += y.moves();
    }

    private static int anyRoot() {
        return below(20) == 0 ? below(14) - 3 : below(8);
    }

    private static int anyWord(MostlyCopying x) {
        switch (below(8)) {
            case 0:
                return 0;
            case 1:
                return Checks.FAR_INTS[below(Checks.FAR_INTS.length)];
            case 2:
                return 990 + below(280);
            case 3:
                return x.root(below(8)) + below(9) - 4;
            default:
                return 1000 + below(100);
        }
    }

    private static int anyField() {
        return below(15) == 0 ? Checks.FAR_INTS[below(Checks.FAR_INTS.length)] : below(4) - below(2);
    }

    private static void step(
            String name, MostlyCopying x, Model y, int growShare, int collectShare) {
        int i = anyRoot();
        int j = anyRoot();
        int k = anyField();
        int word = anyWord(x);
        if (below(400) < collectShare) {
            Checks.due(name + "collect()", x.collect(), y.collect());
            return;
        }
        if (below(100) < growShare) {
            grow(name, x, y);
            return;
        }
        switch (below(10)) {
            case 0:
                String setRoot = name + "setRoot(" + i + ", " + word + ")";
                Checks.due(setRoot, x.setRoot(i, word), y.setRoot(i, word));
                break;
            case 1:
                String put = name + "put(" + i + ", " + k + ", " + word + ")";
                Checks.due(put, x.put(i, k, word), y.put(i, k, word));
                break;
            case 2:
            case 3:
                String load = name + "load(" + j + ", " + i + ", " + k + ")";
                Checks.due(load, x.load(j, i, k), y.load(j, i, k));
                break;
            case 4:
            case 5:
            case 6:
                String link = name + "link(" + i + ", " + k + ", " + j + ")";
                Checks.due(link, x.link(i, k, j), y.link(i, k, j));
                break;
            default:
                allocOn(name, x, y, i);
        }
    }

    /**
     * Hangs a new object somewhere under root 0 and lets go of it, so that structures grow that
     * only pointer fields keep, and collections have much to move.
     */
    private static void grow(String name, MostlyCopying x, Model y) {
        int i = 1 + below(7);
        int j = 1 + below(7);
        int k = below(2);
        int keeper = walk(x);
        int pointers = 1 + below(3);
        int raws = below(4 - pointers);
        String alloc = name + "grow, alloc(" + i + ", " + pointers + ", " + raws + ")";
        Checks.due(alloc, x.alloc(i, pointers, raws), y.alloc(i, pointers, raws));
        Checks.due(name + "grow, put", x.put(i, pointers, keeper), y.put(i, pointers, keeper));
        Checks.due(name + "grow, setRoot", x.setRoot(j, keeper), y.setRoot(j, keeper));
        Checks.due(name + "grow, link", x.link(j, k, i), y.link(j, k, i));
        Checks.due(name + "grow, let go", x.setRoot(i, 0), y.setRoot(i, 0));
        Checks.due(name + "grow, let go", x.setRoot(j, 0), y.setRoot(j, 0));
    }

    private static int walk(MostlyCopying x) {
        int word = x.root(0);
        for (int steps = below(12); steps > 0; steps--) {
            int k = below(2);
            int next = x.field(word, k);
            word = k < x.shapeAt(word) / 4 && next != 0 ? next : word;
        }
        return word;
    }

    private static void allocOn(String name, MostlyCopying x, Model y, int i) {
        int p = below(10) == 0 ? below(7) - 2 : below(3);
        int r = below(10) == 0 ? below(7) - 2 : below(4 - Math.max(0, Math.min(3, p)));
        int got = x.alloc(i, p, r);
        Checks.due(name + "alloc(" + i + ", " + p + ", " + r + ")", got, y.alloc(i, p, r));
        spentAnswers += got == -7 ? 1 : 0;
        if (got == -6 && below(3) == 0) {
            Checks.due(name + "collect()", x.collect(), y.collect());
        }
    }

    private static void compare(String name, MostlyCopying x, Model y) {
        for (int i = -1; i <= 8; i++) {
            Checks.due(name + "root(" + i + ")", x.root(i), y.root(i));
        }
        for (int word = 998; word <= 1258; word++) {
            int serial = y.serialAt(word);
            Checks.due(name + "serialAt(" + word + ")", x.serialAt(word), serial);
            Checks.due(name + "baseOf(" + word + ")", x.baseOf(word), y.baseOf(word));
            if (serial != 0) {
                Checks.due(name + "shapeAt(" + word + ")", x.shapeAt(word), y.shapeAt(word));
                Checks.due(name + "addressOf()", x.addressOf(serial), y.addressOf(serial));
                for (int k = -1; k <= 3; k++) {
                    String field = name + "field(" + word + ", " + k + ")";
                    Checks.due(field, x.field(word, k), y.field(word, k));
                }
            }
        }
        int inUse = 0;
        for (int page = -1; page <= 32; page++) {
            int state = y.pageState(page);
            Checks.due(name + "pageState(" + page + ")", x.pageState(page), state);
            inUse += state > 0 ? 1 : 0;
        }
        mostPagesInUse = Math.max(mostPagesInUse, inUse);
        Checks.due(name + "openAddress()", x.openAddress(), y.openAddress());
        Checks.due(name + "wordsUsed()", x.wordsUsed(), y.wordsUsed());
    }

    private static void compareAllSerials(String name, MostlyCopying x, Model y) {
        for (int serial = -1; serial <= 4096; serial++) {
            String call = name + "addressOf(" + serial + ")";
            Checks.due(call, x.addressOf(serial), y.addressOf(serial));
        }
    }
}
