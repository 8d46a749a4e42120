/** Pours that double the size not at all, once or several times, and those that are refused. */
public final class PourTest {
    private static final int LESS = Prints.intWith(0);

    /** The size, doubled as often as it must be to have one slot more than fingerprints at least. */
    private static int grown(int size, int prints) {
        int slots = size;
        while (slots < prints + 1) {
            slots *= 2;
        }
        return slots;
    }

    /** Filter f has the size and own fingerprints, the other one its size and the rest of them. */
    private static Checked ready(int f, int size, int own, int otherSize, int others) {
        return new Checked().with(f, size, Prints.spread(own)).with(1 - f, otherSize, Prints.spread(others));
    }

    private static void poured(int f, int size, int own, int others, int sizeThen) {
        int[] all = Prints.together(Prints.spread(own), Prints.spread(others));
        int otherSize = grown(8, others);
        Checked q = ready(f, size, own, otherSize, others);
        q.pour(f, own + others);
        q.holds(f, sizeThen, all);
        q.holds(1 - f, otherSize, Prints.spread(others));
    }

    private static void refused(int f, int size, int own, int others) {
        int otherSize = grown(8, others);
        Checked q = ready(f, size, own, otherSize, others);
        q.pour(f, Checked.FULL);
        q.pour(f, Checked.FULL);
        q.holds(f, size, Prints.spread(own));
        q.holds(1 - f, otherSize, Prints.spread(others));
    }

    private static void due(int size, int own, int others, int sizeThen) {
        String doubled = sizeThen == size ? "not at all" : sizeThen == 2 * size ? "once" : "several times";
        String name = "pour: doubles " + doubled + ", " + size + " to " + sizeThen + " slots, " + others + " to " + own;
        Due.testBoth(name, f -> poured(f, size, own, others, sizeThen));
    }

    private static void notAtAll() {
        due(8, 0, 0, 8);
        due(8, 0, 7, 8);
        due(8, 7, 0, 8);
        due(8, 3, 4, 8);
        due(16, 0, 15, 16);
        due(16, 8, 7, 16);
        due(32, 0, 31, 32);
        due(32, 16, 15, 32);
        due(64, 0, 0, 64);
        due(64, 1, 1, 64);
        due(64, 0, 63, 64);
        due(64, 63, 0, 64);
        due(64, 32, 31, 64);
    }

    private static void once() {
        due(8, 0, 8, 16);
        due(8, 7, 1, 16);
        due(8, 1, 7, 16);
        due(8, 7, 8, 16);
        due(8, 0, 15, 16);
        due(16, 0, 16, 32);
        due(16, 15, 1, 32);
        due(16, 15, 16, 32);
        due(32, 0, 32, 64);
        due(32, 31, 1, 64);
        due(32, 31, 32, 64);
        due(32, 0, 63, 64);
    }

    private static void severalTimes() {
        due(8, 0, 16, 32);
        due(8, 7, 9, 32);
        due(8, 7, 24, 32);
        due(8, 0, 31, 32);
        due(8, 0, 32, 64);
        due(8, 7, 25, 64);
        due(8, 7, 56, 64);
        due(8, 0, 63, 64);
        due(16, 0, 32, 64);
        due(16, 15, 17, 64);
        due(16, 15, 48, 64);
        due(16, 0, 63, 64);
    }

    private static void full(int size, int own, int others) {
        String name = "pour: 64 slots are too few, " + others + " to " + own + " in " + size + " slots";
        Due.testBoth(name, f -> refused(f, size, own, others));
    }

    private static void tooFewSlots() {
        full(8, 1, 63);
        full(8, 7, 57);
        full(8, 7, 63);
        full(16, 1, 63);
        full(16, 15, 49);
        full(32, 31, 33);
        full(32, 1, 63);
        full(64, 63, 1);
        full(64, 32, 32);
        full(64, 33, 31);
        full(64, 1, 63);
        full(64, 63, 63);
    }

    private static void everyPairOfCounts(int f, int size) {
        for (int own = 0; own < size; own++) {
            for (int others = 0; others <= 63; others++) {
                if (own + others <= 63) {
                    poured(f, size, own, others, grown(size, own + others));
                } else {
                    refused(f, size, own, others);
                }
            }
        }
    }

    private static void otherCases() {
        for (int size : Checked.SIZES) {
            Due.testBoth("pour: every pair of counts, " + size + " slots", f -> everyPairOfCounts(f, size));
        }
        Due.testBoth("pour: the size of the other filter does not count", f -> {
            Checked q = new Checked().with(f, 8, 3).with(1 - f, 64, 0, 255);
            q.pour(f, 3);
            q.holds(f, 8, 0, 3, 255);
            q.holds(1 - f, 64, 0, 255);
        });
        Due.testBoth("pour: a great size is not made smaller", f -> {
            Checked q = new Checked().with(f, 64).with(1 - f, 8, 0, 255);
            q.pour(f, 2);
            q.holds(f, 64, 0, 255);
        });
        Due.testBoth("pour: again and again, to the last that fits", PourTest::againAndAgain);
        Due.testBoth("pour: there and back", PourTest::thereAndBack);
        Due.testBoth("pour: no room after it, if it made the filter full", f -> {
            Checked q = ready(f, 8, 7, 8, 0);
            q.pour(f, 7);
            q.add(f, LESS, Checked.FULL);
            q.grow(f, 16);
            q.add(f, LESS, 3);
        });
        Due.testBoth("pour: fits again after a remove", f -> {
            Checked q = ready(f, 64, 63, 8, 1);
            q.pour(f, Checked.FULL);
            q.remove(1 - f, LESS, 0);
            q.pour(f, 63);
            q.add(1 - f, LESS, 1);
            q.pour(f, Checked.FULL);
            q.remove(f, LESS, 1);
            q.pour(f, 63);
            q.holds(f, 64, Prints.spread(63));
        });
    }

    private static void againAndAgain(int f) {
        Checked q = new Checked().with(1 - f, 8, Prints.same(7, 255));
        int size = 8;
        for (int total = 7; total <= 63; total += 7) {
            q.pour(f, total);
            size = grown(size, total);
            q.size(f, size);
            q.times(f, 255, total);
        }
        q.pour(f, Checked.FULL);
        q.holds(f, 64, Prints.same(63, 255));
        q.holds(1 - f, 8, Prints.same(7, 255));
    }

    /** Each pour adds what the other filter has by then, so the counts are those of Fibonacci. */
    private static void thereAndBack(int f) {
        Checked q = new Checked().with(f, 8, 0).with(1 - f, 8, 255);
        q.pour(f, 2);
        q.pour(1 - f, 3);
        q.pour(f, 5);
        q.pour(1 - f, 8);
        q.pour(f, 13);
        q.pour(1 - f, 21);
        q.pour(f, 34);
        q.pour(1 - f, 55);
        q.pour(f, Checked.FULL);
        q.pour(1 - f, Checked.FULL);
        q.holds(f, 64, Prints.together(Prints.same(13, 0), Prints.same(21, 255)));
        q.holds(1 - f, 64, Prints.together(Prints.same(21, 0), Prints.same(34, 255)));
    }

    public static void main(String[] args) {
        notAtAll();
        once();
        severalTimes();
        tooFewSlots();
        otherCases();
        Due.end();
    }
}
