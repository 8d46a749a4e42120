import java.util.ArrayList;
import java.util.Collections;
import java.util.List;

/** Long mixed runs of calls, each answer compared with that of a plain model of the document. */
public final class ModelTest {
    private static final int RUNS = 4000;
    /** The document promises nothing about an object after its 512th call. */
    private static final int CALLS = 512;
    private static final int METHODS = 12;

    private static int wrong = 0;
    private static long seed = 1;

    /** A number from 0 to below bound, the same ones in every run of this test. */
    private static int next(int bound) {
        seed = seed * 6364136223846793005L + 1442695040888963407L;
        return (int) ((seed >>> 33) % bound);
    }

    /** The document's words over sorted lists, with nothing shared with the program. */
    private static final class Model {
        final List<List<Integer>> lists = List.of(new ArrayList<>(), new ArrayList<>());
        final int[] sizes = {8, 8};

        static int printOf(int x) {
            return (int) ((x * -1640531535L & 0xFFFFFFFFL) >> 24);
        }

        int timesThere(int f, int print) {
            return Collections.frequency(lists.get(f), print);
        }

        int add(int f, int x) {
            if (lists.get(f).size() >= sizes[f] - 1) {
                return -2;
            }
            lists.get(f).add(printOf(x));
            Collections.sort(lists.get(f));
            return timesThere(f, printOf(x));
        }

        int remove(int f, int x) {
            return lists.get(f).remove((Integer) printOf(x)) ? timesThere(f, printOf(x)) : -3;
        }

        int print(int f, int k) {
            return k >= 0 && k < lists.get(f).size() ? lists.get(f).get(k) : -3;
        }

        int grow(int f) {
            return sizes[f] == 64 ? -2 : (sizes[f] *= 2);
        }

        int shrink(int f) {
            return sizes[f] == 8 || lists.get(f).size() > sizes[f] / 2 - 1 ? -3 : (sizes[f] /= 2);
        }

        int pour(int f) {
            int total = lists.get(0).size() + lists.get(1).size();
            if (total + 1 > 64) {
                return -2;
            }
            while (sizes[f] < total + 1) {
                sizes[f] *= 2;
            }
            lists.get(f).addAll(lists.get(1 - f));
            Collections.sort(lists.get(f));
            return total;
        }

        int clear(int f) {
            int had = lists.get(f).size();
            lists.get(f).clear();
            return had;
        }

        int answer(int method, int f, int a) {
            if (method == 11) {
                return printOf(a);
            }
            if (f != 0 && f != 1) {
                return method == 2 ? 0 : -1;
            }
            switch (method) {
                case 0: return add(f, a);
                case 1: return remove(f, a);
                case 2: return timesThere(f, printOf(a)) > 0 ? 1 : 0;
                case 3: return a < 0 || a > 255 ? -1 : timesThere(f, a);
                case 4: return lists.get(f).size();
                case 5: return sizes[f];
                case 6: return print(f, a);
                case 7: return grow(f);
                case 8: return shrink(f);
                case 9: return pour(f);
                default: return clear(f);
            }
        }
    }

    private static int answer(QuotientFilter q, int method, int f, int a) {
        switch (method) {
            case 0: return q.add(f, a);
            case 1: return q.remove(f, a);
            case 2: return q.maybe(f, a) ? 1 : 0;
            case 3: return q.times(f, a);
            case 4: return q.count(f);
            case 5: return q.size(f);
            case 6: return q.print(f, a);
            case 7: return q.grow(f);
            case 8: return q.shrink(f);
            case 9: return q.pour(f);
            case 10: return q.clear(f);
            default: return q.printOf(a);
        }
    }

    private static final String[] NAMES = {"add", "remove", "maybe", "times", "count", "size", "print",
        "grow", "shrink", "pour", "clear", "printOf"};

    /** Adds are the most frequent, and clear rare, or the filters would never be full. */
    private static int someMethod(int addsInTen) {
        if (next(10) < addsInTen) {
            return 0;
        }
        int method = next(METHODS);
        return method == 10 && next(20) != 0 ? 7 : method;
    }

    private static int someFilter() {
        if (next(40) != 0) {
            return next(2);
        }
        int[] others = {-1, 2, 3, Integer.MIN_VALUE, Integer.MAX_VALUE};
        return others[next(others.length)];
    }

    private static int someArgument(int method, int spread) {
        if (next(40) == 0) {
            return (next(65536) << 16) + next(65536);
        }
        if (method == 3) {
            return next(2) == 0 ? Model.printOf(next(spread)) : next(260) - 2;
        }
        return method == 6 ? next(68) - 2 : next(spread) - spread / 4;
    }

    private static void run(int number) {
        QuotientFilter q = new QuotientFilter();
        Model model = new Model();
        int addsInTen = next(6);
        int spread = 4 + next(60);
        for (int i = 0; i < CALLS; i++) {
            int method = someMethod(addsInTen);
            int f = someFilter();
            int a = someArgument(method, spread);
            int got = answer(q, method, f, a);
            int want = model.answer(method, f, a);
            if (got != want) {
                wrong++;
                System.out.println("run " + number + ", call " + i + ": " + NAMES[method] + " with f " + f
                    + " and " + a + " answered " + got + ", due is " + want);
                return;
            }
        }
    }

    public static void main(String[] args) {
        for (int number = 0; number < RUNS && wrong < 10; number++) {
            run(number);
        }
        System.out.println(wrong == 0 ? "all answers are as due" : wrong + " runs went wrong");
        if (wrong != 0) {
            System.exit(1);
        }
    }
}
