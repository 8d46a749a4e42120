/** Runs of 512 calls on one object: the document promises the answers up to the 512th. */
public final class LastCallTest {
    private static final int[] MOST = Prints.spread(63);

    private interface Call {
        void on(Checked q);
    }

    /** Makes the call again and again, up to the object's 512th. */
    private static void toTheLastCall(Checked q, Call call) {
        while (q.calls() < Checked.MOST_CALLS) {
            call.on(q);
        }
        Due.is("the number of calls", q.calls(), Checked.MOST_CALLS);
    }

    private static void toTheCallBeforeTheLast(Checked q, Call call) {
        while (q.calls() < Checked.MOST_CALLS - 1) {
            call.on(q);
        }
    }

    private static void theSameCall() {
        Due.testBoth("512 calls: adds up to 63, then none has room", f -> {
            Checked q = new Checked().with(f, 64, MOST);
            toTheLastCall(q, o -> o.add(f, 0, Checked.FULL));
        });
        Due.testBoth("512 calls: what is not there is removed", f ->
                toTheLastCall(new Checked(), q -> q.remove(f, 0, Checked.NONE)));
        Due.testBoth("512 calls: grows at 64 slots", f ->
                toTheLastCall(new Checked().with(f, 64), q -> q.grow(f, Checked.FULL)));
        Due.testBoth("512 calls: shrinks at 8 slots", f ->
                toTheLastCall(new Checked(), q -> q.shrink(f, Checked.NONE)));
        Due.testBoth("512 calls: pours of nothing", f ->
                toTheLastCall(new Checked().with(f, 8, 1, 2), q -> q.pour(f, 2)));
        Due.testBoth("512 calls: pours that do not fit", f ->
                toTheLastCall(new Checked().with(f, 64, MOST).with(1 - f, 8, 0), q -> q.pour(f, Checked.FULL)));
        Due.testBoth("512 calls: clears of nothing", f ->
                toTheLastCall(new Checked().with(f, 16), q -> q.clear(f, 0)));
        Due.test("512 calls: filters outside 0..1", () ->
                toTheLastCall(new Checked(), q -> q.add(2, 0, Checked.BAD)));
    }

    private static void turns() {
        Due.testBoth("512 calls: each fingerprint in and out", f -> {
            Checked q = new Checked();
            for (int print = 0; print <= 255; print++) {
                q.add(f, Prints.intWith(print), 1);
                q.remove(f, Prints.intWith(print), 0);
            }
            Due.is("the number of calls", q.calls(), Checked.MOST_CALLS);
        });
        Due.testBoth("512 calls: grow and shrink in turn", f -> {
            Checked q = new Checked();
            for (int i = 0; i < 256; i++) {
                q.grow(f, 16);
                q.shrink(f, 8);
            }
            Due.is("the number of calls", q.calls(), Checked.MOST_CALLS);
        });
        Due.testBoth("512 calls: pour and clear in turn", f -> {
            Checked q = new Checked().with(1 - f, 64, MOST);
            for (int i = 0; i < 223; i++) {
                q.pour(f, 63);
                q.clear(f, 63);
            }
            Due.is("the number of calls", q.calls(), Checked.MOST_CALLS);
        });
        Due.testBoth("512 calls: full, empty, and full again", f -> {
            Checked q = new Checked();
            q.growTo(f, 64);
            for (int i = 0; i < 7; i++) {
                q.addAll(f, MOST);
                q.clear(f, 63);
            }
            toTheLastCall(q, o -> o.count(f, 0));
        });
    }

    /** The object's filter f is of 32 slots with 15 fingerprints, so that no call is refused. */
    private static void last(String call, int f, Call lastCall) {
        Due.test("512 calls: the 512th is " + call + " (filter " + f + ")", () -> {
            Checked q = new Checked().with(f, 32, Prints.same(15, 255));
            toTheCallBeforeTheLast(q, o -> o.times(f, 255, 15));
            lastCall.on(q);
            Due.is("the number of calls", q.calls(), Checked.MOST_CALLS);
        });
    }

    private static void eachAsTheLast() {
        int x = Prints.intWith(255);
        for (int i = 0; i <= 1; i++) {
            int f = i;
            last("add", f, q -> q.add(f, x, 16));
            last("remove", f, q -> q.remove(f, x, 14));
            last("maybe", f, q -> q.maybe(f, x, true));
            last("times", f, q -> q.times(f, 255, 15));
            last("count", f, q -> q.count(f, 15));
            last("size", f, q -> q.size(f, 32));
            last("print", f, q -> q.print(f, 14, 255));
            last("grow", f, q -> q.grow(f, 64));
            last("shrink", f, q -> q.shrink(f, 16));
            last("pour from it", f, q -> q.pour(1 - f, 15));
            last("clear", f, q -> q.clear(f, 15));
            last("printOf", f, q -> q.printOf(x, 255));
        }
    }

    public static void main(String[] args) {
        theSameCall();
        turns();
        eachAsTheLast();
        Due.end();
    }
}
