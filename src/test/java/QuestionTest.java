/** The calls that only ask: however often they are made, the answers and both filters stay as they are. */
public final class QuestionTest {
    private static final int[] SOME = {0, 7, 7, 254};
    private static final int[] NOTHING = {};
    private static final int[] MOST = Prints.spread(63);
    private static final int[] OTHERS = {0, 1, 7, 128, 255};

    private interface Question {
        void on(Checked q, int f);
    }

    /** Asked three times, of filter f; then both filters are looked at twice, as looking is asking too. */
    private static void changesNothing(int f, int size, int[] prints, Question question) {
        Checked q = new Checked().with(f, size, prints).with(1 - f, 32, OTHERS);
        for (int i = 0; i < 3; i++) {
            question.on(q, f);
        }
        for (int i = 0; i < 2; i++) {
            q.holds(f, size, prints);
            q.holds(1 - f, 32, OTHERS);
        }
    }

    private static void ofSome(String name, Question question) {
        Due.testBoth(name + ": changes nothing", f -> changesNothing(f, 16, SOME, question));
    }

    private static void ofEmpty(String name, Question question) {
        Due.testBoth(name + ", empty filter: changes nothing", f -> changesNothing(f, 8, NOTHING, question));
    }

    private static void ofFull(String name, Question question) {
        Due.testBoth(name + ", full filter: changes nothing", f -> changesNothing(f, 64, MOST, question));
    }

    private static void maybes() {
        int least = Prints.intWith(0);
        int twice = Prints.intWith(7);
        int greatest = Prints.intWith(255);
        ofSome("maybe, there once", (q, f) -> q.maybe(f, least, true));
        ofSome("maybe, there twice", (q, f) -> q.maybe(f, twice, true));
        ofSome("maybe, in the other filter alone", (q, f) -> q.maybe(f, greatest, false));
        ofEmpty("maybe", (q, f) -> q.maybe(f, least, false));
        ofFull("maybe", (q, f) -> q.maybe(f, greatest, true));
    }

    private static void timeses() {
        ofSome("times, there once", (q, f) -> q.times(f, 254, 1));
        ofSome("times, there twice", (q, f) -> q.times(f, 7, 2));
        ofSome("times, in the other filter alone", (q, f) -> q.times(f, 255, 0));
        ofEmpty("times", (q, f) -> q.times(f, 0, 0));
        ofFull("times", (q, f) -> q.times(f, 0, 2));
    }

    private static void prints() {
        ofSome("print, the first", (q, f) -> q.print(f, 0, 0));
        ofSome("print, the last", (q, f) -> q.print(f, 3, 254));
        ofSome("print, the one after the last", (q, f) -> q.print(f, 4, Checked.NONE));
        ofEmpty("print", (q, f) -> q.print(f, 0, Checked.NONE));
        ofFull("print", (q, f) -> q.print(f, 62, 255));
    }

    private static void countsAndSizes() {
        ofSome("count", (q, f) -> q.count(f, 4));
        ofEmpty("count", (q, f) -> q.count(f, 0));
        ofFull("count", (q, f) -> q.count(f, 63));
        ofSome("size", (q, f) -> q.size(f, 16));
        ofEmpty("size", (q, f) -> q.size(f, 8));
        ofFull("size", (q, f) -> q.size(f, 64));
    }

    private static void printOfs() {
        int there = Prints.intWith(7);
        int greatest = Prints.intWith(255);
        ofSome("printOf, there", (q, f) -> q.printOf(there, 7));
        ofSome("printOf, not there", (q, f) -> q.printOf(greatest, 255));
        ofEmpty("printOf", (q, f) -> q.printOf(there, 7));
        ofFull("printOf", (q, f) -> q.printOf(greatest, 255));
    }

    public static void main(String[] args) {
        maybes();
        timeses();
        prints();
        countsAndSizes();
        printOfs();
        Due.end();
    }
}
