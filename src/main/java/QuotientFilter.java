/** Two filters, each a list of fingerprints with a size; ../shared/DOC.md is its document. */
public final class QuotientFilter {
    public static final int BAD = -1;
    public static final int FULL = -2;
    public static final int NONE = -3;

    private static final int FILTERS = 2;
    private static final int PRINTS = 256;
    private static final int TALLIES = 512; // FILTERS times PRINTS
    private static final int LEAST_SIZE = 8;
    private static final int GREATEST_SIZE = 64;
    private static final int MOST_DOUBLINGS = 3; // from LEAST_SIZE to GREATEST_SIZE

    // A tally for each fingerprint, filter 0 first, needs no sorting to be read in ascending order.
    private final int[] tallies = new int[TALLIES];
    // Kept beside the tallies so that room can be told without summing them.
    private final int[] counts = new int[FILTERS];
    private final int[] sizes = new int[FILTERS];

    public QuotientFilter() {
        sizes[0] = LEAST_SIZE;
        sizes[1] = LEAST_SIZE;
    }

    public int add(int f, int x) {
        if (!isFilter(f)) {
            return BAD;
        }
        if (!fits(counts[f] + 1, sizes[f])) {
            return FULL;
        }
        int place = f * PRINTS + fingerprint(x);
        tallies[place]++;
        counts[f]++;
        return tallies[place];
    }

    public int remove(int f, int x) {
        if (!isFilter(f)) {
            return BAD;
        }
        int place = f * PRINTS + fingerprint(x);
        if (tallies[place] == 0) {
            return NONE;
        }
        tallies[place]--;
        counts[f]--;
        return tallies[place];
    }

    public boolean maybe(int f, int x) {
        return isFilter(f) && tallies[f * PRINTS + fingerprint(x)] > 0;
    }

    public int times(int f, int print) {
        if (!isFilter(f) || print < 0 || print >= PRINTS) {
            return BAD;
        }
        return tallies[f * PRINTS + print];
    }

    public int count(int f) {
        return isFilter(f) ? counts[f] : BAD;
    }

    public int size(int f) {
        return isFilter(f) ? sizes[f] : BAD;
    }

    public int print(int f, int k) {
        if (!isFilter(f)) {
            return BAD;
        }
        if (k < 0) {
            return NONE;
        }
        int upToHere = 0;
        for (int print = 0; print < PRINTS; print++) {
            upToHere += tallies[f * PRINTS + print];
            if (k < upToHere) {
                return print;
            }
        }
        return NONE;
    }

    public int grow(int f) {
        if (!isFilter(f)) {
            return BAD;
        }
        if (sizes[f] == GREATEST_SIZE) {
            return FULL;
        }
        sizes[f] *= 2;
        return sizes[f];
    }

    public int shrink(int f) {
        if (!isFilter(f)) {
            return BAD;
        }
        if (sizes[f] == LEAST_SIZE || !fits(counts[f], sizes[f] / 2)) {
            return NONE;
        }
        sizes[f] /= 2;
        return sizes[f];
    }

    public int pour(int f) {
        if (!isFilter(f)) {
            return BAD;
        }
        int together = counts[0] + counts[1];
        if (!fits(together, GREATEST_SIZE)) {
            return FULL;
        }
        growToFit(f, together);
        addTalliesOfOther(f);
        counts[f] = together;
        return together;
    }

    public int clear(int f) {
        if (!isFilter(f)) {
            return BAD;
        }
        int had = counts[f];
        for (int print = 0; print < PRINTS; print++) {
            tallies[f * PRINTS + print] = 0;
        }
        counts[f] = 0;
        return had;
    }

    public int printOf(int x) {
        return fingerprint(x);
    }

    private static boolean isFilter(int f) {
        return f >= 0 && f < FILTERS;
    }

    private static int fingerprint(int x) {
        return (x * -1640531535) >>> 24;
    }

    // One slot always stays empty.
    private static boolean fits(int prints, int slots) {
        return prints <= slots - 1;
    }

    private void growToFit(int f, int prints) {
        for (int doubling = 0; doubling < MOST_DOUBLINGS && !fits(prints, sizes[f]); doubling++) {
            sizes[f] *= 2;
        }
    }

    private void addTalliesOfOther(int f) {
        int other = 1 - f;
        for (int print = 0; print < PRINTS; print++) {
            tallies[f * PRINTS + print] += tallies[other * PRINTS + print];
        }
    }
}
