/** Arguments outside their bounds, on either side, and which refusal comes first. */
public final class OutsideTest {
    // 1 << 24 is among them because it wraps around to 0 where it is multiplied by 256.
    private static final int[] BELOW_0 = {-1, -2, -255, -256, -(1 << 24), Integer.MIN_VALUE + 1, Integer.MIN_VALUE};
    private static final int[] ABOVE_1 = {2, 3, 255, 256, 257, 1 << 24, Integer.MAX_VALUE - 1, Integer.MAX_VALUE};

    private static final int[] SOME = {0, 7, 7, 255};
    private static final int[] OTHERS = {0, 7, 128, 255, 255};
    private static final int[] MOST = Prints.spread(63);

    private interface Refused {
        void on(Checked q, int f);
    }

    /** Both filters are so that no call with a filter in 0..1 would be refused. */
    private static void refusedWhereAllElseIsFine(int f, Refused call) {
        Checked q = new Checked().with(0, 16, SOME).with(1, 32, OTHERS);
        call.on(q, f);
        q.holds(0, 16, SOME);
        q.holds(1, 32, OTHERS);
    }

    /** What is not there is refused too: remove, print and shrink would answer NONE. */
    private static void refusedWhereAllIsEmpty(int f, Refused call) {
        Checked q = new Checked();
        call.on(q, f);
        q.holds(0, 8);
        q.holds(1, 8);
    }

    /** What has no room is refused too: add, grow and pour would answer FULL. */
    private static void refusedWhereAllIsFull(int f, Refused call) {
        Checked q = new Checked().with(0, 64, MOST).with(1, 64, MOST);
        call.on(q, f);
        q.holds(0, 64, MOST);
        q.holds(1, 64, MOST);
    }

    private static void outside(String method, Refused call) {
        outside(method + " below 0", BELOW_0, call);
        outside(method + " above 1", ABOVE_1, call);
    }

    private static void outside(String name, int[] filters, Refused call) {
        for (int f : filters) {
            Due.test(name + ", " + f, () -> refusedWhereAllElseIsFine(f, call));
            Due.test(name + ", " + f + ", both filters empty", () -> refusedWhereAllIsEmpty(f, call));
            Due.test(name + ", " + f + ", both filters full", () -> refusedWhereAllIsFull(f, call));
        }
    }

    private static void filtersOutside() {
        int x = Prints.intWith(7);
        outside("add: filter", (q, f) -> q.add(f, x, Checked.BAD));
        outside("remove: filter", (q, f) -> q.remove(f, x, Checked.BAD));
        outside("maybe: filter", (q, f) -> q.maybe(f, x, false));
        outside("maybe: filter, fingerprint 0", (q, f) -> q.maybe(f, 0, false));
        outside("times: filter", (q, f) -> q.times(f, 7, Checked.BAD));
        outside("count: filter", (q, f) -> q.count(f, Checked.BAD));
        outside("size: filter", (q, f) -> q.size(f, Checked.BAD));
        outside("print: filter", (q, f) -> q.print(f, 0, Checked.BAD));
        outside("grow: filter", (q, f) -> q.grow(f, Checked.BAD));
        outside("shrink: filter", (q, f) -> q.shrink(f, Checked.BAD));
        outside("pour: filter", (q, f) -> q.pour(f, Checked.BAD));
        outside("clear: filter", (q, f) -> q.clear(f, Checked.BAD));
    }

    /** The neighbours of a filter's fingerprints, 255 of filter 0 and 0 of filter 1, are there. */
    private static void timesOf(int f, int print, int want) {
        Checked q = new Checked().with(0, 16, SOME).with(1, 32, OTHERS);
        q.times(f, print, want);
        q.holds(0, 16, SOME);
        q.holds(1, 32, OTHERS);
    }

    private static void printsOutside() {
        int[] below = {-1, -2, -255, -256, -257, Integer.MIN_VALUE};
        int[] above = {256, 257, 263, 511, 512, Integer.MAX_VALUE};
        for (int print : below) {
            Due.testBoth("times: fingerprint below 0, " + print, f -> timesOf(f, print, Checked.BAD));
        }
        for (int print : above) {
            Due.testBoth("times: fingerprint above 255, " + print, f -> timesOf(f, print, Checked.BAD));
        }
        Due.testBoth("times: the least fingerprint is inside", f -> timesOf(f, 0, 1));
        Due.testBoth("times: the greatest fingerprint is inside", f -> timesOf(f, 255, f == 0 ? 1 : 2));
        outside("times: fingerprint below 0 and filter", (q, f) -> q.times(f, -1, Checked.BAD));
        outside("times: fingerprint above 255 and filter", (q, f) -> q.times(f, 256, Checked.BAD));
    }

    private static void numberWithoutPrint(int f, int k) {
        refusedWhereAllElseIsFine(f, (q, filter) -> q.print(filter, k, Checked.NONE));
        refusedWhereAllIsEmpty(f, (q, filter) -> q.print(filter, k, Checked.NONE));
        refusedWhereAllIsFull(f, (q, filter) -> q.print(filter, k, Checked.NONE));
    }

    private static void numbersOutside() {
        int[] below = {-1, -2, -63, -64, -256, Integer.MIN_VALUE + 1, Integer.MIN_VALUE};
        int[] above = {63, 64, 65, 126, 255, 256, 512, Integer.MAX_VALUE - 1, Integer.MAX_VALUE};
        for (int k : below) {
            Due.testBoth("print: number below 0, " + k, f -> numberWithoutPrint(f, k));
        }
        for (int k : above) {
            Due.testBoth("print: number no filter can have, " + k, f -> numberWithoutPrint(f, k));
        }
        Due.testBoth("print: number 0 of an empty filter beside a full one", f -> {
            Checked q = new Checked().with(1 - f, 64, MOST);
            q.print(f, 0, Checked.NONE);
        });
        for (int size : Checked.SIZES) {
            Due.testBoth("print: the last number and the one after it, " + size + " slots", f -> lastNumbers(f, size));
        }
    }

    private static void lastNumbers(int f, int size) {
        Checked q = new Checked().with(1 - f, 64, MOST).with(f, size);
        for (int n = 0; n < size - 1; n++) {
            q.print(f, n, Checked.NONE);
            q.add(f, Prints.intWith(255), n + 1);
            q.print(f, n, 255);
            q.print(f, n + 1, Checked.NONE);
        }
    }

    /** The document says of print and pour in which order the tests stand, and lists them so elsewhere. */
    private static void ordersOfTests() {
        outside("print: BAD before NONE, number -1, filter", (q, f) -> q.print(f, -1, Checked.BAD));
        outside("print: BAD before NONE, number 63, filter", (q, f) -> q.print(f, 63, Checked.BAD));
        Due.test("pour: BAD before FULL", () -> {
            Checked q = fullAtBothEnds();
            q.pour(-1, Checked.BAD);
            q.pour(2, Checked.BAD);
            q.pour(0, Checked.FULL);
            q.pour(1, Checked.FULL);
        });
        Due.test("add: BAD before FULL", () -> {
            Checked q = fullAtBothEnds();
            q.add(-1, 0, Checked.BAD);
            q.add(2, 0, Checked.BAD);
            q.add(0, 0, Checked.FULL);
            q.add(1, 0, Checked.FULL);
        });
        Due.test("grow: BAD before FULL", () -> {
            Checked q = fullAtBothEnds();
            q.grow(-1, Checked.BAD);
            q.grow(2, Checked.BAD);
            q.grow(0, Checked.FULL);
            q.grow(1, Checked.FULL);
        });
        Due.test("remove: BAD before NONE", () -> {
            Checked q = new Checked();
            q.remove(-1, 0, Checked.BAD);
            q.remove(2, 0, Checked.BAD);
            q.remove(0, 0, Checked.NONE);
            q.remove(1, 0, Checked.NONE);
        });
        Due.test("shrink: BAD before NONE for 8 slots", () -> {
            Checked q = new Checked();
            q.shrink(-1, Checked.BAD);
            q.shrink(2, Checked.BAD);
            q.shrink(0, Checked.NONE);
            q.shrink(1, Checked.NONE);
        });
        Due.test("shrink: BAD before NONE for too many fingerprints", () -> {
            Checked q = fullAtBothEnds();
            q.shrink(-1, Checked.BAD);
            q.shrink(2, Checked.BAD);
            q.shrink(0, Checked.NONE);
            q.shrink(1, Checked.NONE);
        });
    }

    private static Checked fullAtBothEnds() {
        return new Checked().with(0, 64, MOST).with(1, 64, MOST);
    }

    public static void main(String[] args) {
        filtersOutside();
        printsOutside();
        numbersOutside();
        ordersOfTests();
        Due.end();
    }
}
