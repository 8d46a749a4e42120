/** Ints whose product wraps around in the fingerprint, by printOf and by the calls that take an int. */
public final class WrapTest {
    private static final int GREATEST_REST = 0xFFFFFF;

    /** The fingerprints here are written out, so that the exact arithmetic is tested as well. */
    private static void toldByHand() {
        printOf("0, whose product is 0", 0, 0);
        printOf("a negative product that does not wrap", 1, 158);
        printOf("the least positive int whose product wraps", 2, 60);
        printOf("a positive product that does not wrap", -1, 97);
        printOf("the greatest negative int whose product wraps", -2, 195);
        printOf("the greatest int", Integer.MAX_VALUE, 225);
        printOf("the least int", Integer.MIN_VALUE, 128);
        printOf("next to the least int", Integer.MIN_VALUE + 1, 30);
        printOf("65536, which wraps over the lower half", 65536, 121);
    }

    private static void printOf(String name, int x, int print) {
        Due.test("printOf: " + name, () -> {
            Due.is("the exact fingerprint of " + x, Prints.of(x), print);
            throughEachCall(x, print);
        });
    }

    private static void throughEachCall(int x, int print) {
        for (int f = 0; f <= 1; f++) {
            Checked q = new Checked();
            q.printOf(x, print);
            q.maybe(f, x, false);
            q.add(f, x, 1);
            q.maybe(f, x, true);
            q.times(f, print, 1);
            q.print(f, 0, print);
            q.add(f, x, 2);
            q.holds(f, 8, print, print);
            q.holds(1 - f, 8);
            q.remove(f, x, 1);
            q.remove(f, x, 0);
            q.remove(f, x, Checked.NONE);
        }
    }

    /** The products just at, just before and just after each change from one fingerprint to the next. */
    private static void edgesOfEachPrint() {
        for (int p = 0; p <= 255; p++) {
            int print = p;
            Due.test("printOf: edges of fingerprint " + print, () -> {
                throughEachCall(Prints.intWith(print, 0), print);
                throughEachCall(Prints.intWith(print, 1), print);
                throughEachCall(Prints.intWith(print, GREATEST_REST - 1), print);
                throughEachCall(Prints.intWith(print, GREATEST_REST), print);
            });
        }
    }

    /** Different ints with one fingerprint stand for each other. */
    private static void alike() {
        Due.testBoth("fingerprint: ints that differ but share one", f -> {
            int least = Prints.intWith(200, 0);
            int greatest = Prints.intWith(200, GREATEST_REST);
            Checked q = new Checked();
            q.add(f, least, 1);
            q.maybe(f, greatest, true);
            q.add(f, greatest, 2);
            q.remove(f, least, 1);
            q.remove(f, least, 0);
            q.maybe(f, greatest, false);
            q.remove(f, greatest, Checked.NONE);
        });
    }

    private static void aroundTheEndsOfInt() {
        Due.test("printOf: from the greatest int round to the least", () -> {
            for (int i = -5000; i <= 5000; i++) {
                int x = Integer.MAX_VALUE + i;
                new Checked().printOf(x, Prints.of(x));
            }
        });
        Due.test("printOf: each power of two and its neighbours", () -> {
            Checked q = new Checked();
            for (int shift = 0; shift < 32; shift++) {
                for (int near = -1; near <= 1; near++) {
                    int x = (1 << shift) + near;
                    q.printOf(x, Prints.of(x));
                    q.printOf(-x, Prints.of(-x));
                }
            }
        });
    }

    private static void changesNothing() {
        Due.test("printOf: changes nothing", () -> {
            Checked q = new Checked().with(0, 16, 0, 255).with(1, 8, 7);
            q.printOf(Integer.MIN_VALUE, 128);
            q.printOf(Integer.MAX_VALUE, 225);
            q.holds(0, 16, 0, 255);
            q.holds(1, 8, 7);
        });
    }

    public static void main(String[] args) {
        toldByHand();
        edgesOfEachPrint();
        alike();
        aroundTheEndsOfInt();
        changesNothing();
        Due.end();
    }
}
