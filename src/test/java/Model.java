import java.util.ArrayList;
import java.util.Comparator;
import java.util.HashMap;
import java.util.HashSet;
import java.util.List;
import java.util.Map;
import java.util.Set;
import java.util.TreeSet;

/** The document once more, in its own words and over Java's collections, to compare with. */
final class Model {
    private static final class Thing {
        int serial;
        int start;
        Thing[] pointers;
        int[] raws;

        int size() {
            return 1 + pointers.length + raws.length;
        }

        int page() {
            return (start - 1000) / 8;
        }

        boolean hasField(int k) {
            return k >= 0 && k < pointers.length + raws.length;
        }

        int content(int k) {
            if (k >= pointers.length) {
                return raws[k - pointers.length];
            }
            return pointers[k] == null ? 0 : pointers[k].start;
        }
    }

    private final int[] roots;
    private final int capacity;
    private List<Thing> present = new ArrayList<>();
    private Set<Integer> promoted = new HashSet<>();
    private Integer open = null;
    private int made = 0;
    private int moves = 0;

    Model(int roots, int capacity) {
        this.roots = new int[Math.max(2, Math.min(8, roots))];
        this.capacity = Math.max(16, Math.min(60, capacity));
    }

    private boolean bad(int i) {
        return i < 0 || i >= roots.length;
    }

    private Thing inside(int word) {
        for (Thing thing : present) {
            if (word >= thing.start && word < thing.start + thing.size()) {
                return thing;
            }
        }
        return null;
    }

    private static Set<Integer> pagesOf(List<Thing> things) {
        Set<Integer> pages = new TreeSet<>();
        for (Thing thing : things) {
            pages.add(thing.page());
        }
        return pages;
    }

    private static int occupied(List<Thing> things, int page) {
        return things.stream().filter(t -> t.page() == page).mapToInt(Thing::size).sum();
    }

    /** Places a thing of this size, where `there` lie already and `taken` pages may not be taken. */
    private int place(int size, List<Thing> there, Set<Integer> taken) {
        if (open != null && occupied(there, open) + size <= 8) {
            return 1000 + 8 * open + occupied(there, open);
        }
        int page = 0;
        while (taken.contains(page)) {
            page++;
        }
        if (page >= 32) {
            throw new IllegalStateException("no page to take");
        }
        open = page;
        return 1000 + 8 * page;
    }

    int setRoot(int i, int word) {
        if (bad(i)) {
            return -1;
        }
        roots[i] = word;
        return 0;
    }

    int alloc(int i, int pointers, int raws) {
        if (bad(i)) {
            return -1;
        }
        long sum = (long) pointers + raws;
        if (pointers < 0 || pointers > 3 || raws < 0 || raws > 3 || sum < 1 || sum > 3) {
            return -5;
        }
        if (wordsUsed() + 1 + sum > capacity) {
            return -6;
        }
        if (made == 4095) {
            return -7;
        }
        Thing thing = new Thing();
        thing.serial = ++made;
        thing.pointers = new Thing[pointers];
        thing.raws = new int[raws];
        thing.start = place(thing.size(), present, pagesOf(present));
        present.add(thing);
        roots[i] = thing.start;
        return thing.start;
    }

    int put(int i, int k, int value) {
        if (bad(i)) {
            return -1;
        }
        Thing thing = inside(roots[i]);
        if (thing == null) {
            return -2;
        }
        if (!thing.hasField(k)) {
            return -3;
        }
        if (k < thing.pointers.length) {
            return -4;
        }
        thing.raws[k - thing.pointers.length] = value;
        return 0;
    }

    int link(int i, int k, int j) {
        if (bad(i) || bad(j)) {
            return -1;
        }
        Thing thing = inside(roots[i]);
        if (thing == null) {
            return -2;
        }
        if (!thing.hasField(k)) {
            return -3;
        }
        if (k >= thing.pointers.length) {
            return -4;
        }
        Thing target = inside(roots[j]);
        if (roots[j] != 0 && target == null) {
            return -2;
        }
        thing.pointers[k] = target;
        return 0;
    }

    int load(int j, int i, int k) {
        if (bad(j) || bad(i)) {
            return -1;
        }
        Thing thing = inside(roots[i]);
        if (thing == null) {
            return -2;
        }
        if (!thing.hasField(k)) {
            return -3;
        }
        roots[j] = thing.content(k);
        return 0;
    }

    int collect() {
        Set<Integer> pinned = new TreeSet<>();
        for (int word : roots) {
            Thing thing = inside(word);
            if (thing != null) {
                pinned.add(thing.page());
            }
        }
        List<Thing> list = new ArrayList<>();
        for (Thing thing : present) {
            if (pinned.contains(thing.page())) {
                list.add(thing);
            }
        }
        list.sort(Comparator.comparingInt(t -> t.start));
        for (int at = 0; at < list.size(); at++) {
            for (Thing target : list.get(at).pointers) {
                if (target != null && !list.contains(target)) {
                    list.add(target);
                }
            }
        }
        moveAllBut(pinned, list);
        int discarded = present.size() - list.size();
        present = list;
        promoted = pinned;
        return discarded;
    }

    private void moveAllBut(Set<Integer> pinned, List<Thing> list) {
        open = null;
        Set<Integer> taken = pagesOf(present);
        List<Thing> moved = new ArrayList<>();
        Map<Thing, Integer> places = new HashMap<>();
        for (Thing thing : list) {
            if (!pinned.contains(thing.page())) {
                Thing copy = new Thing();
                copy.pointers = thing.pointers;
                copy.raws = thing.raws;
                copy.start = place(thing.size(), moved, taken);
                taken.add(copy.page());
                moved.add(copy);
                places.put(thing, copy.start);
            }
        }
        places.forEach((thing, start) -> thing.start = start);
        moves += places.size();
    }

    /** How many objects all collections together have moved. */
    int moves() {
        return moves;
    }

    int root(int i) {
        return bad(i) ? 0 : roots[i];
    }

    int baseOf(int word) {
        Thing thing = inside(word);
        return thing == null ? 0 : thing.start;
    }

    int serialAt(int word) {
        Thing thing = inside(word);
        return thing == null ? 0 : thing.serial;
    }

    int addressOf(int serial) {
        for (Thing thing : present) {
            if (thing.serial == serial) {
                return thing.start;
            }
        }
        return 0;
    }

    int shapeAt(int word) {
        Thing thing = inside(word);
        return thing == null ? 0 : 4 * thing.pointers.length + thing.raws.length;
    }

    int field(int word, int k) {
        Thing thing = inside(word);
        return thing == null || !thing.hasField(k) ? 0 : thing.content(k);
    }

    int pageState(int page) {
        if (page < 0 || page > 31) {
            return -8;
        }
        if (!pagesOf(present).contains(page)) {
            return 0;
        }
        return promoted.contains(page) ? 2 : 1;
    }

    int openAddress() {
        if (open == null || occupied(present, open) == 8) {
            return 0;
        }
        return 1000 + 8 * open + occupied(present, open);
    }

    int wordsUsed() {
        return present.stream().mapToInt(Thing::size).sum();
    }
}
