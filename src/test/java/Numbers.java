import java.math.BigInteger;

/** The numbers of the document, worked out once more without machine arithmetic. */
final class Numbers {
    private static final BigInteger FACTOR = BigInteger.valueOf(1103515245L);
    private static final BigInteger MORE = BigInteger.valueOf(12345);

    private BigInteger last;

    Numbers(long seed) {
        last = BigInteger.valueOf(seed);
    }

    int next() {
        last = last.multiply(FACTOR).add(MORE).mod(BigInteger.TWO.pow(31));
        return last.divide(BigInteger.valueOf(65536)).intValueExact();
    }

    /** How many of the first so many numbers modulo 100 are below this. */
    static int below(int limit, long seed, int many) {
        Numbers numbers = new Numbers(seed);
        int below = 0;
        for (int i = 0; i < many; i++) {
            below += numbers.next() % 100 < limit ? 1 : 0;
        }
        return below;
    }
}
