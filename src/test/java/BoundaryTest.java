/** Empty and full filters, the least and the greatest size, and the calls refused there. */
public final class BoundaryTest {
    private static final int[] FEW = {0, 100, 255};
    private static final int LESS = Prints.intWith(0);
    private static final int GREATER = Prints.intWith(255);
    /** Neither in FEW nor in any spread of 7, 15, 31 or 63 fingerprints. */
    private static final int ABSENT = Prints.intWith(1);

    private static void newObject() {
        Due.testBoth("new: 8 slots and no fingerprints", f -> new Checked().holds(f, 8));
        Due.testBoth("new: no fingerprint is there", f -> {
            Checked q = new Checked();
            for (int print = 0; print <= 255; print++) {
                q.times(f, print, 0);
                q.maybe(f, Prints.intWith(print), false);
            }
        });
        Due.testBoth("new: beside an object that is full", f -> {
            Checked used = new Checked().with(f, 64, Prints.spread(63));
            new Checked().holds(f, 8);
            used.holds(f, 64, Prints.spread(63));
        });
    }

    private static void addWithoutRoom(int f, int size) {
        int[] prints = Prints.spread(size - 1);
        Checked q = new Checked().with(1 - f, 16, FEW).with(f, size, prints);
        q.add(f, LESS, Checked.FULL);
        q.add(f, GREATER, Checked.FULL);
        q.add(f, ABSENT, Checked.FULL);
        q.holds(f, size, prints);
        q.holds(1 - f, 16, FEW);
        q.maybe(f, ABSENT, false);
        q.add(1 - f, ABSENT, 1);
    }

    private static void addTheSameToTheLastSlot(int f, int size) {
        Checked q = new Checked().with(f, size);
        for (int n = 1; n < size; n++) {
            q.add(f, GREATER, n);
        }
        q.add(f, GREATER, Checked.FULL);
        q.holds(f, size, Prints.same(size - 1, 255));
        q.times(f, 255, size - 1);
    }

    private static void roomAgainAfterRemove(int f, int size) {
        Checked q = new Checked().with(f, size, Prints.spread(size - 1));
        q.remove(f, GREATER, 0);
        q.add(f, ABSENT, 1);
        q.add(f, GREATER, Checked.FULL);
        q.maybe(f, GREATER, false);
    }

    private static void roomAgainAfterClear(int f, int size) {
        Checked q = new Checked().with(f, size, Prints.spread(size - 1));
        q.add(f, ABSENT, Checked.FULL);
        q.clear(f, size - 1);
        q.addAll(f, Prints.spread(size - 1));
        q.add(f, ABSENT, Checked.FULL);
    }

    private static void roomAgainAfterGrow(int f, int size) {
        int[] prints = Prints.spread(size - 1);
        Checked q = new Checked().with(f, size, prints);
        q.add(f, ABSENT, Checked.FULL);
        q.grow(f, 2 * size);
        q.holds(f, 2 * size, prints);
        for (int n = 1; n <= size; n++) {
            q.add(f, ABSENT, n);
        }
        q.add(f, ABSENT, Checked.FULL);
    }

    private static void adds() {
        for (int size : Checked.SIZES) {
            String slots = ", " + size + " slots";
            Due.testBoth("add: no room" + slots, f -> addWithoutRoom(f, size));
            Due.testBoth("add: the same one up to the last room" + slots, f -> addTheSameToTheLastSlot(f, size));
            Due.testBoth("add: room again after remove" + slots, f -> roomAgainAfterRemove(f, size));
            Due.testBoth("add: room again after clear" + slots, f -> roomAgainAfterClear(f, size));
        }
        for (int size = 8; size <= 32; size *= 2) {
            int small = size;
            Due.testBoth("add: room again after grow, " + small + " slots", f -> roomAgainAfterGrow(f, small));
        }
    }

    private static void removes() {
        Due.testBoth("remove: not there, empty filter", f -> {
            Checked q = new Checked().with(1 - f, 8, FEW);
            q.remove(f, LESS, Checked.NONE);
            q.remove(f, GREATER, Checked.NONE);
            q.holds(f, 8);
            q.holds(1 - f, 8, FEW);
        });
        Due.testBoth("remove: not there, though its neighbours are", f -> {
            Checked q = new Checked().with(f, 8, 99, 101);
            q.remove(f, Prints.intWith(100), Checked.NONE);
            q.holds(f, 8, 99, 101);
        });
        Due.testBoth("remove: not there, though it is in the other filter", f -> {
            Checked q = new Checked().with(f, 8, 99).with(1 - f, 8, FEW);
            q.remove(f, GREATER, Checked.NONE);
            q.holds(f, 8, 99);
            q.holds(1 - f, 8, FEW);
        });
        Due.testBoth("remove: not there any more", f -> {
            Checked q = new Checked().with(f, 8, 0, 0, 255);
            q.remove(f, LESS, 1);
            q.remove(f, LESS, 0);
            q.remove(f, LESS, Checked.NONE);
            q.remove(f, LESS, Checked.NONE);
            q.holds(f, 8, 255);
        });
        for (int size : Checked.SIZES) {
            Due.testBoth("remove: not there, full filter, " + size + " slots", f -> removeFromFull(f, size));
            Due.testBoth("remove: from full to empty, " + size + " slots", f -> removeAll(f, size));
        }
    }

    private static void removeFromFull(int f, int size) {
        int[] prints = Prints.spread(size - 1);
        Checked q = new Checked().with(f, size, prints);
        q.remove(f, ABSENT, Checked.NONE);
        q.holds(f, size, prints);
        q.add(f, ABSENT, Checked.FULL);
    }

    private static void removeAll(int f, int size) {
        Checked q = new Checked().with(f, size, Prints.same(size - 1, 255));
        for (int left = size - 2; left >= 0; left--) {
            q.remove(f, GREATER, left);
        }
        q.remove(f, GREATER, Checked.NONE);
        q.holds(f, size);
    }

    private static void questions() {
        Due.testBoth("maybe: empty, there once, there twice, there no more", f -> {
            Checked q = new Checked();
            q.maybe(f, GREATER, false);
            q.add(f, GREATER, 1);
            q.maybe(f, GREATER, true);
            q.add(f, GREATER, 2);
            q.remove(f, GREATER, 1);
            q.maybe(f, GREATER, true);
            q.maybe(1 - f, GREATER, false);
            q.remove(f, GREATER, 0);
            q.maybe(f, GREATER, false);
        });
        for (int size : Checked.SIZES) {
            String slots = ", " + size + " slots";
            Due.testBoth("maybe: full filter" + slots, f -> maybeInFull(f, size));
            Due.testBoth("times: none and as often as can be" + slots, f -> timesFromNoneToMost(f, size));
            Due.testBoth("count: empty to full" + slots, f -> countToFull(f, size));
            Due.testBoth("size: empty and full" + slots, f -> sizeOfEmptyAndFull(f, size));
        }
    }

    private static void maybeInFull(int f, int size) {
        int[] prints = Prints.spread(size - 1);
        Checked q = new Checked().with(f, size, prints);
        for (int print : prints) {
            q.maybe(f, Prints.intWith(print), true);
            q.maybe(1 - f, Prints.intWith(print), false);
        }
        q.maybe(f, ABSENT, false);
    }

    private static void timesFromNoneToMost(int f, int size) {
        Checked q = new Checked().with(f, size);
        q.times(f, 0, 0);
        q.addAll(f, Prints.same(size - 1, 0));
        q.times(f, 0, size - 1);
        q.times(f, 1, 0);
        q.times(1 - f, 0, 0);
    }

    private static void countToFull(int f, int size) {
        Checked q = new Checked().with(f, size);
        int[] prints = Prints.spread(size - 1);
        q.count(f, 0);
        q.addAll(f, prints);
        q.count(f, size - 1);
        q.add(f, LESS, Checked.FULL);
        q.count(f, size - 1);
        q.count(1 - f, 0);
    }

    private static void sizeOfEmptyAndFull(int f, int size) {
        Checked q = new Checked().with(f, size);
        q.size(f, size);
        q.addAll(f, Prints.spread(size - 1));
        q.size(f, size);
        q.size(1 - f, 8);
    }

    private static void printOrders() {
        int[] sorted = {0, 0, 1, 127, 128, 254, 255};
        Due.testBoth("print: ascending, though added in descending order", f -> {
            Checked q = new Checked();
            for (int i = 6; i >= 0; i--) {
                q.add(f, Prints.intWith(sorted[i]), i == 0 ? 2 : 1);
            }
            q.holds(f, 8, sorted);
        });
        Due.testBoth("print: each as often as it is there", f -> {
            Checked q = new Checked().with(f, 8, 9, 9, 9, 200, 200);
            q.holds(f, 8, 9, 9, 9, 200, 200);
            q.remove(f, Prints.intWith(9), 2);
            q.holds(f, 8, 9, 9, 200, 200);
        });
    }

    private static void grows() {
        for (int n : new int[] {0, 1, 31, 32, 63}) {
            Due.testBoth("grow: 64 slots, " + n + " fingerprints", f -> growAtTheEnd(f, n));
        }
        Due.testBoth("grow: from 8 slots to the end", f -> {
            Checked q = new Checked().with(f, 8, FEW).with(1 - f, 8, FEW);
            q.grow(f, 16);
            q.grow(f, 32);
            q.grow(f, 64);
            q.grow(f, Checked.FULL);
            q.holds(f, 64, FEW);
            q.holds(1 - f, 8, FEW);
        });
        Due.testBoth("grow: 64 slots refuse, the other filter's 8 do not", f -> {
            Checked q = new Checked().with(f, 64);
            q.grow(f, Checked.FULL);
            q.grow(1 - f, 16);
        });
    }

    private static void growAtTheEnd(int f, int n) {
        int[] prints = Prints.spread(n);
        Checked q = new Checked().with(f, 64, prints);
        q.grow(f, Checked.FULL);
        q.grow(f, Checked.FULL);
        q.holds(f, 64, prints);
        q.holds(1 - f, 8);
    }

    private static void shrinks() {
        for (int n = 0; n <= 7; n++) {
            int prints = n;
            Due.testBoth("shrink: 8 slots, " + n + " fingerprints", f -> shrinkRefused(f, 8, prints));
        }
        for (int size = 16; size <= 64; size *= 2) {
            int now = size;
            int most = size / 2 - 1;
            String slots = ", " + size + " slots";
            Due.testBoth("shrink: one fingerprint too many" + slots, f -> shrinkRefused(f, now, most + 1));
            Due.testBoth("shrink: full" + slots, f -> shrinkRefused(f, now, now - 1));
            Due.testBoth("shrink: just enough slots" + slots, f -> shrinkTo(f, now, most));
            Due.testBoth("shrink: one to spare" + slots, f -> shrinkTo(f, now, most - 1));
            Due.testBoth("shrink: empty" + slots, f -> shrinkTo(f, now, 0));
        }
        Due.testBoth("shrink: from 64 slots to the end", f -> {
            Checked q = new Checked().with(f, 64, FEW).with(1 - f, 64, FEW);
            q.shrink(f, 32);
            q.shrink(f, 16);
            q.shrink(f, 8);
            q.shrink(f, Checked.NONE);
            q.holds(f, 8, FEW);
            q.holds(1 - f, 64, FEW);
        });
    }

    private static void shrinkRefused(int f, int size, int n) {
        int[] prints = Prints.spread(n);
        Checked q = new Checked().with(f, size, prints).with(1 - f, 16, FEW);
        q.shrink(f, Checked.NONE);
        q.shrink(f, Checked.NONE);
        q.holds(f, size, prints);
        q.holds(1 - f, 16, FEW);
    }

    private static void shrinkTo(int f, int size, int n) {
        int[] prints = Prints.spread(n);
        Checked q = new Checked().with(f, size, prints).with(1 - f, 64, Prints.spread(63));
        q.shrink(f, size / 2);
        q.holds(f, size / 2, prints);
        for (int free = size / 2 - 1 - n; free > 0; free--) {
            q.add(f, ABSENT, size / 2 - n - free);
        }
        q.add(f, ABSENT, Checked.FULL);
    }

    private static void clears() {
        for (int size : Checked.SIZES) {
            String slots = ", " + size + " slots";
            Due.testBoth("clear: empty" + slots, f -> clearOf(f, size, 0));
            Due.testBoth("clear: one fingerprint" + slots, f -> clearOf(f, size, 1));
            Due.testBoth("clear: full" + slots, f -> clearOf(f, size, size - 1));
        }
    }

    private static void clearOf(int f, int size, int n) {
        int[] prints = Prints.spread(n);
        Checked q = new Checked().with(f, size, prints).with(1 - f, 16, FEW);
        q.clear(f, n);
        q.holds(f, size);
        for (int print : prints) {
            q.times(f, print, 0);
            q.maybe(f, Prints.intWith(print), false);
        }
        q.clear(f, 0);
        q.holds(f, size);
        q.holds(1 - f, 16, FEW);
    }

    public static void main(String[] args) {
        newObject();
        adds();
        removes();
        questions();
        printOrders();
        grows();
        shrinks();
        clears();
        Due.end();
    }
}
