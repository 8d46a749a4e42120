/** A new object, each answer of which is compared with the one due. */
final class Checked {
    static final int BAD = -1;
    static final int FULL = -2;
    static final int NONE = -3;
    static final int[] SIZES = {8, 16, 32, 64};
    /** The document promises nothing about an object after its 512th call. */
    static final int MOST_CALLS = 512;

    private final QuotientFilter object = new QuotientFilter();
    private int calls = 0;

    int calls() {
        return calls;
    }

    private void due(String call, int got, int want) {
        calls++;
        if (calls > MOST_CALLS) {
            throw new IllegalStateException("the test itself is wrong: it makes more than 512 calls");
        }
        Due.is("call " + calls + ", " + call + ",", got, want);
    }

    void add(int f, int x, int want) {
        due("add(" + f + ", " + x + ")", object.add(f, x), want);
    }

    void remove(int f, int x, int want) {
        due("remove(" + f + ", " + x + ")", object.remove(f, x), want);
    }

    void maybe(int f, int x, boolean want) {
        due("maybe(" + f + ", " + x + ") as 1 or 0", object.maybe(f, x) ? 1 : 0, want ? 1 : 0);
    }

    void times(int f, int print, int want) {
        due("times(" + f + ", " + print + ")", object.times(f, print), want);
    }

    void count(int f, int want) {
        due("count(" + f + ")", object.count(f), want);
    }

    void size(int f, int want) {
        due("size(" + f + ")", object.size(f), want);
    }

    void print(int f, int k, int want) {
        due("print(" + f + ", " + k + ")", object.print(f, k), want);
    }

    void grow(int f, int want) {
        due("grow(" + f + ")", object.grow(f), want);
    }

    void shrink(int f, int want) {
        due("shrink(" + f + ")", object.shrink(f), want);
    }

    void pour(int f, int want) {
        due("pour(" + f + ")", object.pour(f), want);
    }

    void clear(int f, int want) {
        due("clear(" + f + ")", object.clear(f), want);
    }

    void printOf(int x, int want) {
        due("printOf(" + x + ")", object.printOf(x), want);
    }

    /** Grows filter f from 8 slots to the size. */
    void growTo(int f, int size) {
        for (int s = 16; s <= size; s *= 2) {
            grow(f, s);
        }
    }

    /** Adds the fingerprints, in ascending order, to filter f, which has none of them. */
    void addAll(int f, int... prints) {
        int alike = 0;
        for (int i = 0; i < prints.length; i++) {
            alike = i > 0 && prints[i] == prints[i - 1] ? alike + 1 : 1;
            add(f, Prints.intWith(prints[i]), alike);
        }
    }

    /** Makes the new filter f one of this size with these fingerprints, in ascending order. */
    Checked with(int f, int size, int... prints) {
        growTo(f, size);
        addAll(f, prints);
        return this;
    }

    /** Filter f is of this size and has these fingerprints, in ascending order, and no others. */
    void holds(int f, int size, int... prints) {
        size(f, size);
        count(f, prints.length);
        for (int k = 0; k < prints.length; k++) {
            print(f, k, prints[k]);
        }
        print(f, prints.length, NONE);
    }
}
