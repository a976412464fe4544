public final class Promise15OpenAddressTest {
    public static void main(String[] args) {
        answersTheLowestUnoccupied();
        answersZeroWhenNoneIsOpen();
        answersZeroWhenFull();
        answersASingleWord();
        WordReads.changeNothing("openAddress", MostlyCopying::openAddress);
        Checks.finish();
    }

    private static void openAddress() {
        Checks.sentence("`openAddress()` answers the lowest unoccupied address of the open page; 0 "
                + "if no page is open or the open page is full.");
    }

    private static void answersTheLowestUnoccupied() {
        openAddress();
        for (int u = 2; u <= 7; u++) {
            MostlyCopying x = new MostlyCopying(2, 60);
            for (int size : Heaps.sizesThatFill(u)) {
                x.alloc(0, 0, size - 1);
            }
            Checks.due("openAddress()", x.openAddress(), 1000 + u);
            x.alloc(0, 0, 0);
            x.alloc(9, 0, 1);
            Checks.due("openAddress(), refused allocs", x.openAddress(), 1000 + u);
            x.setRoot(0, 0);
            Checks.due("openAddress(), no root", x.openAddress(), 1000 + u);
        }
        MostlyCopying y = new MostlyCopying(2, 60);
        y.alloc(0, 0, 2);
        y.alloc(0, 0, 2);
        y.alloc(0, 0, 2);
        Checks.due("openAddress(), page 0 has room too", y.openAddress(), 1011);
    }

    private static void answersZeroWhenNoneIsOpen() {
        openAddress();
        MostlyCopying x = new MostlyCopying(2, 60);
        Checks.due("openAddress() of a new heap", x.openAddress(), 0);
        x.collect();
        Checks.due("openAddress() after collect()", x.openAddress(), 0);
        x.alloc(0, 0, 1);
        x.collect();
        Checks.due("openAddress() when none was moved", x.openAddress(), 0);
        x.setRoot(0, 0);
        x.collect();
        Checks.due("openAddress() of an emptied heap", x.openAddress(), 0);
        x.alloc(0, 0, 1);
        Checks.due("openAddress(), open again", x.openAddress(), 1002);
    }

    private static void answersZeroWhenFull() {
        openAddress();
        int[][] fillings = {{4, 4}, {2, 2, 2, 2}, {3, 3, 2}, {4, 2, 2}, {2, 3, 3}};
        for (int[] sizes : fillings) {
            MostlyCopying x = new MostlyCopying(2, 60);
            for (int size : sizes) {
                x.alloc(0, 0, size - 1);
            }
            Checks.due("openAddress() of a full page", x.openAddress(), 0);
            x.alloc(0, 0, 1);
            Checks.due("openAddress() of the next page", x.openAddress(), 1010);
        }
        MostlyCopying y = new MostlyCopying(2, 60);
        y.alloc(0, 2, 1);
        y.alloc(1, 0, 3);
        for (int k = 0; k < 2; k++) {
            y.alloc(1, 0, 3);
            y.link(0, k, 1);
        }
        y.setRoot(1, 0);
        y.collect();
        Checks.due("openAddress() of a page full of moved ones", y.openAddress(), 0);
    }

    private static void answersASingleWord() {
        Checks.sentence("An open page with a single unoccupied word is not full: that word's "
                + "address is answered, although no object fits there.");
        int[][] fillings = {{4, 3}, {3, 4}, {2, 2, 3}, {3, 2, 2}};
        for (int[] sizes : fillings) {
            MostlyCopying x = new MostlyCopying(2, 60);
            for (int size : sizes) {
                x.alloc(0, 0, size - 1);
            }
            Checks.due("openAddress()", x.openAddress(), 1007);
            Checks.due("baseOf(1007)", x.baseOf(1007), 0);
            Checks.due("alloc(0, 0, 1), not there", x.alloc(0, 0, 1), 1008);
            Checks.due("openAddress()", x.openAddress(), 1010);
        }
        MostlyCopying y = new MostlyCopying(2, 60);
        y.alloc(0, 2, 1);
        y.alloc(1, 0, 3);
        for (int k = 0; k < 2; k++) {
            y.alloc(1, 0, 2 + k);
            y.link(0, k, 1);
        }
        y.setRoot(1, 0);
        y.collect();
        Checks.due("openAddress() behind moved ones", y.openAddress(), 1023);
    }
}
