import java.math.BigInteger;
import java.util.function.IntPredicate;

/** DRAW as the document tells it, worked out with numbers that do not go round until they are told to. */
final class Draws {
    private static final BigInteger FACTOR = BigInteger.valueOf(1103515245);
    private static final BigInteger MORE = BigInteger.valueOf(12345);

    private Draws() {
    }

    /** SEED behind so many draws. */
    static int seedBehind(int seed, int draws) {
        int then = seed;
        for (int i = 0; i < draws; i++) {
            then = FACTOR.multiply(BigInteger.valueOf(then)).add(MORE).intValue();
        }
        return then;
    }

    /** The draw of that number, the first being 1. */
    static int draw(int seed, int number) {
        int bits = 0;
        for (int bit = 30; bit >= 16; bit--) {
            bits = 2 * bits + (BigInteger.valueOf(seedBehind(seed, number)).testBit(bit) ? 1 : 0);
        }
        return bits;
    }

    /** The least seed from 1 on of which this is so. */
    static int seedOf(IntPredicate wanted) {
        int seed = 1;
        while (!wanted.test(seed)) {
            seed++;
        }
        return seed;
    }
}
