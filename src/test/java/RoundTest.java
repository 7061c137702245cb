import java.math.BigInteger;
import java.util.Random;

/** Promise 11. */
final class RoundTest {
    public static void main(String[] args) {
        Due due = new Due();
        knownRounds(due);
        leastRound(due);
        eachWidth(due);
        leastOfMany(due);
        aroundTheLongest(due);
        tooLong(due);
        neverRound(due);
        smallKinds(due);
        anyKinds(due);
        kindAlone(due);
        due.end();
    }

    private static void round(Due due, int width, long polynomial, int want) {
        Run x = new Run(due);
        x.kind(width, polynomial, 3, true, true, 5);
        x.due(x.round(), want);
    }

    private static void knownRounds(Due due) {
        due.sentence("the least number of bits 0 behind which a register 1 is 1 again");
        round(due, 3, 3, 7);
        round(due, 5, 5, 31);
        round(due, 8, 7, 127);
        round(due, 8, 0x1D, 255);
    }

    private static void leastRound(Due due) {
        due.sentence("1 .. 4,096 (1: no bit at all is not enough)");
        round(due, 1, 1, 1);
        round(due, 1, -1, 1);
        round(due, 2, 1, 2);
        round(due, 2, 3, 3);
    }

    private static void eachWidth(Due due) {
        due.sentence("x^w + 1 goes round in just w bits");
        for (int width = 1; width <= 64; width++) {
            round(due, width, 1, width);
        }
    }

    private static void leastOfMany(Due due) {
        due.sentence("the least number, not one of its multiples");
        round(due, 32, powerOfXPlusOne(32), 32);
        round(due, 33, powerOfXPlusOne(33), 64);
        round(due, 64, powerOfXPlusOne(64), 64);
    }

    /** Without its highest coefficient. */
    private static long powerOfXPlusOne(int power) {
        BigInteger answer = BigInteger.ONE;
        for (int i = 0; i < power; i++) {
            answer = answer.xor(answer.shiftLeft(1));
        }
        return answer.clearBit(power).longValue();
    }

    /**
     * No kind goes round in just 4,096: it would need a power of x + 1 above the 2,048th. So the
     * nearest are 4,095 (a primitive polynomial of 12 bits) and 4,097 = 17 * 241 (the product of
     * one that goes round in 17 and one that does in 241), which is one too many.
     */
    private static void aroundTheLongest(Due due) {
        due.sentence("1 .. 4,096: the longest that there are");
        round(due, 12, 0x053, 4095);
        Run x = new Run(due);
        x.kind(12, 0x053, 0, false, false, 0);
        x.due(x.zeros(1, 4095), 1);
        due.sentence("BAD: none of these (4,097)");
        round(due, 32, 0x8267CC83L, SliceChecks.BAD);
        Run y = new Run(due);
        y.kind(32, 0x8267CC83L, 0, false, false, 0);
        y.due(y.zeros(1, 4097), 1);
    }

    private static void tooLong(Due due) {
        due.sentence("BAD: none of these (more than 4,096)");
        round(due, 13, 0x001B, SliceChecks.BAD);
        round(due, 16, 0x1021, SliceChecks.BAD);
        round(due, 24, 0x001105, SliceChecks.BAD);
        round(due, 32, 0x04C11DB7L, SliceChecks.BAD);
        round(due, 64, 0x42F0E1EBA9EA3693L, SliceChecks.BAD);
    }

    /** A polynomial without its 1 at x^0 is a multiple of x, and so is all that bits 0 leave. */
    private static void neverRound(Due due) {
        due.sentence("BAD: none of these (never 1 again)");
        for (int width = 1; width <= 64; width++) {
            round(due, width, 0, SliceChecks.BAD);
            round(due, width, -2, SliceChecks.BAD);
        }
        round(due, 8, 0x80, SliceChecks.BAD);
    }

    private static void smallKinds(Due due) {
        due.sentence("round of every kind of up to 8 bits");
        for (int width = 1; width <= 8; width++) {
            for (int polynomial = 0; polynomial < 1 << width; polynomial++) {
                new Run(due, new Kind(width, polynomial, 0, false, false, 0, 0)).round();
            }
        }
    }

    private static void anyKinds(Due due) {
        due.sentence("round of some kinds of 9 to 64 bits");
        Random source = new Random(11);
        for (int width = 9; width <= 64; width++) {
            for (int i = 0; i < 4; i++) {
                new Run(due, Kind.any(width, source)).round();
            }
        }
    }

    private static void kindAlone(Due due) {
        due.sentence("round neither asks the row nor changes it");
        Run x = new Run(due);
        x.feed(Kind.DIGITS);
        x.due(x.round(), SliceChecks.BAD);
        x.checks(0xCBF43926L);
        x.kind(8, 7, -1, true, true, -1);
        x.due(x.round(), 127);
        x.due(x.round(), 127);
        x.clear();
        x.due(x.round(), 127);
    }
}
