import java.math.BigInteger;

/** The document's DRAWS once more, in numbers without a bound, and seeds by which a gust comes as a test needs it. */
final class Seeds {
    private static final BigInteger BY = BigInteger.valueOf(1103515245L);
    private static final BigInteger MORE = BigInteger.valueOf(12345L);
    private static final BigInteger ROUND = BigInteger.TWO.pow(31);
    private BigInteger x;

    Seeds(int seed) {
        x = BigInteger.valueOf(seed);
    }

    int draw(int many) {
        x = x.multiply(BY).add(MORE).mod(ROUND);
        return x.divide(BigInteger.valueOf(64)).mod(BigInteger.valueOf(many)).intValue();
    }

    /** A seed whose first DRAW, of 100, is this number, and whose next one, of the windows, is this WINDOW. */
    static int of(int number, int windows, int window) {
        for (int seed = 0; seed < 1000000; seed++) {
            Seeds s = new Seeds(seed);
            if (s.draw(100) == number && s.draw(windows) == window) {
                return seed;
            }
        }
        return -1;
    }
}
