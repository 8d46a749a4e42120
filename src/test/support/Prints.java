import java.math.BigInteger;
import java.util.Arrays;

/** Fingerprints by exact arithmetic, without Java's wrap-around. */
final class Prints {
    private static final BigInteger FACTOR = BigInteger.valueOf(-1640531535);
    private static final BigInteger INTS = BigInteger.ONE.shiftLeft(32);
    private static final BigInteger INVERSE = FACTOR.modInverse(INTS);

    private Prints() {
    }

    static int of(int x) {
        return BigInteger.valueOf(x).multiply(FACTOR).mod(INTS).shiftRight(24).intValue();
    }

    /** The int whose product has the fingerprint as its upper 8 bits and the rest as its lower 24. */
    static int intWith(int print, int rest) {
        long product = ((long) print << 24) + rest;
        return BigInteger.valueOf(product).multiply(INVERSE).mod(INTS).intValue();
    }

    /** Some int with this fingerprint. */
    static int intWith(int print) {
        return intWith(print, 0x123456);
    }

    static int[] same(int n, int print) {
        int[] all = new int[n];
        Arrays.fill(all, print);
        return all;
    }

    /** n fingerprints in ascending order from 0 to 255, with the first two alike. */
    static int[] spread(int n) {
        int[] all = new int[n];
        for (int i = 2; i < n; i++) {
            all[i] = 255 * i / (n - 1);
        }
        return all;
    }

    static int[] together(int[] some, int[] others) {
        int[] all = Arrays.copyOf(some, some.length + others.length);
        System.arraycopy(others, 0, all, some.length, others.length);
        Arrays.sort(all);
        return all;
    }
}
