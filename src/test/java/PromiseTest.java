/** For each promise of the document: ordinary inputs, the edges it names, and wrong inputs. */
public final class PromiseTest {
    private static final int BAD = -1;
    private static final int FULL = -2;
    private static final int NONE = -3;
    private static final int[] NO_FILTERS = {-1, 2, 3, -2, 256, Integer.MIN_VALUE, Integer.MAX_VALUE};

    private static int wrong = 0;

    private static void due(String call, int got, int want) {
        if (got != want) {
            wrong++;
            System.out.println(call + " answered " + got + ", due is " + want);
        }
    }

    private static void due(String call, boolean got, boolean want) {
        due(call, got ? 1 : 0, want ? 1 : 0);
    }

    private static void state(String when, QuotientFilter q, int f, int size, int... prints) {
        due(when + ": size(" + f + ")", q.size(f), size);
        due(when + ": count(" + f + ")", q.count(f), prints.length);
        for (int k = 0; k < prints.length; k++) {
            due(when + ": print(" + f + ", " + k + ")", q.print(f, k), prints[k]);
        }
        due(when + ": print(" + f + ", count)", q.print(f, prints.length), NONE);
    }

    /** A filter f of the size, with n times the fingerprint of x. */
    private static QuotientFilter filled(int f, int size, int n, int x) {
        QuotientFilter q = new QuotientFilter();
        fill(q, f, size, n, x);
        return q;
    }

    private static void fill(QuotientFilter q, int f, int size, int n, int x) {
        // A size of 0 or less is a wrong answer, and doubling it would never end.
        for (int s = q.size(f); s > 0 && s < size; s *= 2) {
            due("grow(" + f + ") to fill", q.grow(f), 2 * s);
        }
        for (int i = 1; i <= n; i++) {
            due("add(" + f + ", " + x + ") to fill", q.add(f, x), i);
        }
    }

    private static int[] same(int n, int print) {
        int[] all = new int[n];
        java.util.Arrays.fill(all, print);
        return all;
    }

    private static void constants() {
        due("BAD", QuotientFilter.BAD, BAD);
        due("FULL", QuotientFilter.FULL, FULL);
        due("NONE", QuotientFilter.NONE, NONE);
    }

    private static void promise1NewObject() {
        for (int f = 0; f <= 1; f++) {
            QuotientFilter q = new QuotientFilter();
            state("new", q, f, 8);
            for (int print = 0; print <= 255; print++) {
                due("new: times(" + f + ", " + print + ")", q.times(f, print), 0);
            }
        }
        QuotientFilter used = new QuotientFilter();
        used.add(0, 1);
        used.grow(1);
        state("a second object beside a used one", new QuotientFilter(), 0, 8);
        state("a second object beside a used one", new QuotientFilter(), 1, 8);
    }

    private static void promise2Add() {
        for (int f = 0; f <= 1; f++) {
            QuotientFilter q = new QuotientFilter();
            due("add 1", q.add(f, 1), 1);
            due("add 2", q.add(f, 2), 1);
            due("add 1 again", q.add(f, 1), 2);
            state("after three adds", q, f, 8, 60, 158, 158);
            state("the other filter after three adds", q, 1 - f, 8);
            for (int size = 8; size <= 64; size *= 2) {
                q = filled(f, size, size - 1, 3);
                due("add without room in " + size, q.add(f, 3), FULL);
                due("add of another without room in " + size, q.add(f, 4), FULL);
                state("after FULL", q, f, size, same(size - 1, 218));
                due("add to the other filter", q.add(1 - f, 3), 1);
                q.remove(f, 3);
                due("add with room again in " + size, q.add(f, 0), 1);
            }
        }
        QuotientFilter q = filled(0, 8, 7, 0);
        for (int f : NO_FILTERS) {
            due("add(" + f + ", 0)", q.add(f, 0), BAD);
        }
        state("after BAD adds", q, 0, 8, same(7, 0));
        state("after BAD adds", q, 1, 8);
    }

    private static void promise3Remove() {
        for (int f = 0; f <= 1; f++) {
            QuotientFilter q = new QuotientFilter();
            due("remove from empty", q.remove(f, 1), NONE);
            q.add(f, 1);
            q.add(f, 1);
            q.add(f, 2);
            q.add(1 - f, 1);
            due("remove what is not there", q.remove(f, 3), NONE);
            due("remove what is only in this one", q.remove(1 - f, 2), NONE);
            state("after NONE", q, f, 8, 60, 158, 158);
            due("remove one of two", q.remove(f, 1), 1);
            state("after one", q, f, 8, 60, 158);
            due("remove the last", q.remove(f, 1), 0);
            due("remove once too often", q.remove(f, 1), NONE);
            state("after the last", q, f, 8, 60);
            state("the other filter", q, 1 - f, 8, 158);
            for (int none : NO_FILTERS) {
                due("remove(" + none + ", 1)", q.remove(none, 1), BAD);
            }
            state("after BAD", q, f, 8, 60);
            state("after BAD", q, 1 - f, 8, 158);
        }
    }

    private static void promise4Maybe() {
        for (int f = 0; f <= 1; f++) {
            QuotientFilter q = new QuotientFilter();
            due("maybe in empty", q.maybe(f, 0), false);
            q.add(f, 1);
            q.add(f, 1);
            due("maybe 1", q.maybe(f, 1), true);
            due("maybe 2", q.maybe(f, 2), false);
            due("maybe 1 in the other", q.maybe(1 - f, 1), false);
            int twin = twinOf(1);
            due("maybe of another int with the same fingerprint", q.maybe(f, twin), true);
            for (int none : NO_FILTERS) {
                due("maybe(" + none + ", 1)", q.maybe(none, 1), false);
            }
            q.remove(f, 1);
            due("maybe 1 after one removal", q.maybe(f, 1), true);
            due("remove by the other int", q.remove(f, twin), 0);
            due("maybe 1 after both", q.maybe(f, 1), false);
        }
    }

    /** The next int above x with x's fingerprint. */
    private static int twinOf(int x) {
        int twin = x + 1;
        while ((twin * -1640531535) >>> 24 != (x * -1640531535) >>> 24) {
            twin++;
        }
        return twin;
    }

    private static void promise5Times() {
        for (int f = 0; f <= 1; f++) {
            QuotientFilter q = new QuotientFilter();
            fill(q, f, 8, 3, 0);
            fill(q, f, 8, 2, xWithPrint(255));
            due("times 0", q.times(f, 0), 3);
            due("times 255", q.times(f, 255), 2);
            due("times 1", q.times(f, 1), 0);
            due("times 254", q.times(f, 254), 0);
            due("times 0 in the other", q.times(1 - f, 0), 0);
            due("times 255 in the other", q.times(1 - f, 255), 0);
            int[] noPrints = {-1, 256, 257, 511, -256, Integer.MIN_VALUE, Integer.MAX_VALUE};
            for (int print : noPrints) {
                due("times(" + f + ", " + print + ")", q.times(f, print), BAD);
            }
            for (int none : NO_FILTERS) {
                due("times(" + none + ", 0)", q.times(none, 0), BAD);
                due("times(" + none + ", 256)", q.times(none, 256), BAD);
            }
        }
        due("times of the greatest number", filled(0, 64, 63, 1).times(0, 158), 63);
    }

    private static int xWithPrint(int print) {
        int x = 0;
        while ((x * -1640531535) >>> 24 != print) {
            x++;
        }
        return x;
    }

    private static void promise6Count() {
        for (int f = 0; f <= 1; f++) {
            QuotientFilter q = new QuotientFilter();
            due("count of empty", q.count(f), 0);
            q.add(f, 1);
            q.add(f, 1);
            q.add(f, 2);
            due("count with a repeated one", q.count(f), 3);
            due("count of the other", q.count(1 - f), 0);
            q.remove(f, 1);
            due("count after remove", q.count(f), 2);
            for (int none : NO_FILTERS) {
                due("count(" + none + ")", q.count(none), BAD);
            }
        }
        due("count of 63", filled(1, 64, 63, 9).count(1), 63);
    }

    private static void promise7Size() {
        for (int f = 0; f <= 1; f++) {
            QuotientFilter q = new QuotientFilter();
            for (int size = 8; size <= 64; size *= 2) {
                due("size", q.size(f), size);
                due("size of the other", q.size(1 - f), 8);
                q.grow(f);
            }
            for (int none : NO_FILTERS) {
                due("size(" + none + ")", q.size(none), BAD);
            }
        }
    }

    private static void promise8Print() {
        for (int f = 0; f <= 1; f++) {
            QuotientFilter q = new QuotientFilter();
            due("print of empty", q.print(f, 0), NONE);
            q.add(f, xWithPrint(255));
            q.add(f, 1);
            q.add(f, 0);
            q.add(f, 1);
            q.add(1 - f, 2);
            state("ascending", q, f, 8, 0, 158, 158, 255);
            state("ascending, the other", q, 1 - f, 8, 60);
            int[] noNumbers = {-1, 4, 5, 8, 256, Integer.MIN_VALUE, Integer.MAX_VALUE};
            for (int k : noNumbers) {
                due("print(" + f + ", " + k + ")", q.print(f, k), NONE);
            }
            for (int none : NO_FILTERS) {
                due("print(" + none + ", 0)", q.print(none, 0), BAD);
                due("print(" + none + ", -1)", q.print(none, -1), BAD);
            }
        }
    }

    private static void promise9Grow() {
        for (int f = 0; f <= 1; f++) {
            QuotientFilter q = filled(f, 8, 7, 1);
            due("grow to 16", q.grow(f), 16);
            state("grown", q, f, 16, same(7, 158));
            due("grow to 32", q.grow(f), 32);
            due("grow to 64", q.grow(f), 64);
            due("grow of 64", q.grow(f), FULL);
            due("grow of 64 again", q.grow(f), FULL);
            for (int none : NO_FILTERS) {
                due("grow(" + none + ")", q.grow(none), BAD);
            }
            state("grown to the end", q, f, 64, same(7, 158));
            state("the other", q, 1 - f, 8);
        }
    }

    private static void promise10Shrink() {
        for (int f = 0; f <= 1; f++) {
            QuotientFilter q = new QuotientFilter();
            due("shrink of 8", q.shrink(f), NONE);
            state("after NONE", q, f, 8);
            for (int size = 16; size <= 64; size *= 2) {
                int most = size / 2 - 1;
                q = filled(f, size, most + 1, 2);
                due("shrink of " + size + " with one too many", q.shrink(f), NONE);
                state("after NONE", q, f, size, same(most + 1, 60));
                q.remove(f, 2);
                due("shrink of " + size + " with just enough", q.shrink(f), size / 2);
                state("after shrink", q, f, size / 2, same(most, 60));
                due("no room after shrink", q.add(f, 2), FULL);
                state("the other", q, 1 - f, 8);
            }
            q = filled(f, 64, 0, 0);
            due("shrink of 64", q.shrink(f), 32);
            due("shrink of 32", q.shrink(f), 16);
            due("shrink of 16", q.shrink(f), 8);
            due("shrink of 8 again", q.shrink(f), NONE);
            q.grow(f);
            for (int none : NO_FILTERS) {
                due("shrink(" + none + ")", q.shrink(none), BAD);
            }
            state("after BAD", q, f, 16);
            state("after BAD", q, 1 - f, 8);
        }
    }

    private static void promise11Pour() {
        for (int f = 0; f <= 1; f++) {
            QuotientFilter q = new QuotientFilter();
            due("pour of nothing", q.pour(f), 0);
            state("after nothing", q, f, 8);
            q.add(f, 1);
            q.add(1 - f, 1);
            q.add(1 - f, 2);
            due("pour", q.pour(f), 3);
            state("after pour", q, f, 8, 60, 158, 158);
            state("the other stays", q, 1 - f, 8, 60, 158);
            q = filled(1 - f, 8, 2, 0);
            fill(q, 1 - f, 8, 1, xWithPrint(255));
            q.add(f, 1);
            due("pour of the least and the greatest fingerprint", q.pour(f), 4);
            state("after the least and the greatest", q, f, 8, 0, 0, 158, 255);
            pourAtEachEdge(f);
            pourBesideGreatSizes(f);
            pourWrongly(f);
        }
    }

    private static void pourAtEachEdge(int f) {
        for (int total = 6; total <= 65; total++) {
            for (int own = 0; own <= 7; own++) {
                int poured = total - own;
                if (poured < 0 || poured > 63) {
                    continue;
                }
                String when = "pour of " + poured + " to " + own;
                QuotientFilter q = filled(f, 8, own, 0);
                fill(q, 1 - f, 64, poured, 1);
                due(when, q.pour(f), total > 63 ? FULL : total);
                int size = total <= 7 ? 8 : total <= 15 ? 16 : total <= 31 ? 32 : 64;
                due(when + ": size", q.size(f), total > 63 ? 8 : size);
                due(when + ": count", q.count(f), total > 63 ? own : total);
                due(when + ": times 0", q.times(f, 0), own);
                due(when + ": times 158", q.times(f, 158), total > 63 ? 0 : poured);
                due(when + ": count of the other", q.count(1 - f), poured);
                due(when + ": times 158 of the other", q.times(1 - f, 158), poured);
                due(when + ": times 0 of the other", q.times(1 - f, 0), 0);
                due(when + ": size of the other", q.size(1 - f), 64);
            }
        }
    }

    private static void pourBesideGreatSizes(int f) {
        QuotientFilter q = filled(f, 64, 1, 0);
        q.add(1 - f, 2);
        due("pour does not shrink", q.pour(f), 2);
        state("pour does not shrink", q, f, 64, 0, 60);
        q = filled(f, 16, 15, 0);
        fill(q, 1 - f, 32, 1, 2);
        due("pour doubles once from 16", q.pour(f), 16);
        due("size then", q.size(f), 32);
        due("size of the other then", q.size(1 - f), 32);
    }

    private static void pourWrongly(int f) {
        QuotientFilter q = filled(f, 64, 63, 0);
        due("pour of nothing to 63", q.pour(f), 63);
        q.add(1 - f, 1);
        due("pour of one to 63", q.pour(f), FULL);
        due("pour of 63 to one", q.pour(1 - f), FULL);
        for (int none : NO_FILTERS) {
            due("pour(" + none + ")", q.pour(none), BAD);
        }
        state("after FULL and BAD", q, f, 64, same(63, 0));
        state("after FULL and BAD", q, 1 - f, 8, 158);
    }

    private static void promise12Clear() {
        for (int f = 0; f <= 1; f++) {
            QuotientFilter q = new QuotientFilter();
            due("clear of empty", q.clear(f), 0);
            fill(q, f, 32, 5, 0);
            fill(q, f, 32, 2, xWithPrint(255));
            fill(q, 1 - f, 16, 3, 1);
            for (int none : NO_FILTERS) {
                due("clear(" + none + ")", q.clear(none), BAD);
            }
            due("count after BAD", q.count(f), 7);
            due("count of the other after BAD", q.count(1 - f), 3);
            due("clear", q.clear(f), 7);
            state("cleared", q, f, 32);
            due("times 0 then", q.times(f, 0), 0);
            due("times 255 then", q.times(f, 255), 0);
            due("maybe 0 then", q.maybe(f, 0), false);
            state("the other stays", q, 1 - f, 16, 158, 158, 158);
            due("clear again", q.clear(f), 0);
            due("add then", q.add(f, 0), 1);
        }
    }

    private static void promise13PrintOf() {
        QuotientFilter q = new QuotientFilter();
        int[] xs = {0, 1, 2, 3, 100, -1, -2, Integer.MAX_VALUE, Integer.MIN_VALUE};
        int[] prints = {0, 158, 60, 218, 205, 97, 195, 225, 128};
        for (int i = 0; i < xs.length; i++) {
            due("printOf(" + xs[i] + ")", q.printOf(xs[i]), prints[i]);
        }
        boolean[] seen = new boolean[256];
        for (int x = -5000; x <= 5000; x++) {
            // The last 32 bits of the long product, as a number from 0 up, are the int product's bits.
            long product = (long) x * -1640531535L & 0xFFFFFFFFL;
            int print = (int) (product / 16777216L);
            // A new object each time, as one is good for 512 calls only.
            due("printOf(" + x + ")", new QuotientFilter().printOf(x), print);
            seen[print] = true;
        }
        for (int print = 0; print < 256; print++) {
            due("fingerprint " + print + " was tried", seen[print], true);
        }
        state("printOf changes nothing", q, 0, 8);
        state("printOf changes nothing", q, 1, 8);
    }

    public static void main(String[] args) {
        constants();
        promise1NewObject();
        promise2Add();
        promise3Remove();
        promise4Maybe();
        promise5Times();
        promise6Count();
        promise7Size();
        promise8Print();
        promise9Grow();
        promise10Shrink();
        promise11Pour();
        promise12Clear();
        promise13PrintOf();
        System.out.println(wrong == 0 ? "all answers are as due" : wrong + " answers are not as due");
        if (wrong != 0) {
            System.exit(1);
        }
    }
}
