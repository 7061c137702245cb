import java.math.BigInteger;
import java.util.Random;

/** Promise 11. */
final class RoundTest {
    public static void main(String[] args) {
        Due due = new Due();
        knownRounds(due);
        smallKinds(due);
        anyKinds(due);
        due.end();
    }

    private static void round(Due due, int width, long polynomial, int want) {
        SliceChecks x = new SliceChecks();
        x.kind(width, polynomial, 3, true, true, 5);
        due.same("round() of width " + width + ", polynomial " + polynomial, x.round(), want);
    }

    private static void knownRounds(Due due) {
        round(due, 1, 1, 1);
        round(due, 1, 0, SliceChecks.BAD);
        round(due, 3, 3, 7);
        round(due, 5, 5, 31);
        round(due, 8, 7, 127);
        round(due, 8, 0x1D, 255);
        round(due, 8, 0, SliceChecks.BAD);
        round(due, 8, 0x80, SliceChecks.BAD);
        // x^w + 1 goes round in just w bits.
        for (int width = 1; width <= 64; width++) {
            round(due, width, 1, width);
        }
        round(due, 32, 0x04C11DB7L, SliceChecks.BAD);
        round(due, 16, 0x1021, SliceChecks.BAD);
        edgeOf4096(due);
    }

    /**
     * No kind goes round in just 4,096: it would need a power of x + 1 above the 2,048th. So the
     * nearest are 4,095 (a primitive polynomial of 12 bits) and 4,097 = 17 * 241 (the product of
     * one that goes round in 17 and one that does in 241), which is one too many.
     */
    private static void edgeOf4096(Due due) {
        round(due, 12, 0x053, 4095);
        round(due, 32, 0x8267CC83L, SliceChecks.BAD);
        round(due, 24, 0x001105, SliceChecks.BAD);
        round(due, 13, 0x001B, SliceChecks.BAD);
        round(due, 33, powerOfXPlusOne(33), 64);
        round(due, 64, powerOfXPlusOne(64), 64);
    }

    /** Without its highest coefficient. */
    private static long powerOfXPlusOne(int power) {
        BigInteger answer = BigInteger.ONE;
        for (int i = 0; i < power; i++) {
            answer = answer.xor(answer.shiftLeft(1));
        }
        return answer.clearBit(power).longValue();
    }

    private static void smallKinds(Due due) {
        for (int width = 1; width <= 8; width++) {
            for (int polynomial = 0; polynomial < 1 << width; polynomial++) {
                SlowChecks slow = new SlowChecks();
                slow.kind(width, polynomial, 0, false, false, 0);
                round(due, width, polynomial, slow.round());
            }
        }
    }

    private static void anyKinds(Due due) {
        Random source = new Random(11);
        for (int width = 9; width <= 64; width++) {
            for (int i = 0; i < 4; i++) {
                long polynomial = source.nextLong();
                SlowChecks slow = new SlowChecks();
                slow.kind(width, polynomial, 0, false, false, 0);
                round(due, width, polynomial, slow.round());
            }
        }
    }
}
