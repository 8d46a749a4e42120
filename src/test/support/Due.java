import java.util.function.IntConsumer;

/** Runs tests that each bear a name, and tells every answer that is not the one due. */
final class Due {
    private static String running = "";
    private static int tests = 0;
    private static int wrong = 0;

    private Due() {
    }

    /** What a test throws counts against it alone, so that the tests after it still run. */
    static void test(String name, Runnable calls) {
        running = name;
        tests++;
        try {
            calls.run();
        } catch (RuntimeException e) {
            fail("threw " + e);
        }
    }

    /** The same test for filter 0 and for filter 1. */
    static void testBoth(String name, IntConsumer calls) {
        for (int f = 0; f <= 1; f++) {
            int filter = f;
            test(name + " (filter " + f + ")", () -> calls.accept(filter));
        }
    }

    static void is(String call, int got, int want) {
        if (got != want) {
            fail(call + " answered " + got + ", due is " + want);
        }
    }

    private static void fail(String what) {
        wrong++;
        System.out.println(running + ": " + what);
    }

    static void end() {
        System.out.println(tests + " named tests, " + wrong + " wrong answers");
        if (wrong != 0) {
            System.exit(1);
        }
    }
}
