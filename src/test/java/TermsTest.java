import java.util.Random;
import java.util.zip.CRC32;

/**
 * What it is, and the terms. With the polynomial x^w + 1 a bit turns the register round by one and
 * is added to its lowest: so checks can be told beforehand without going bit by bit.
 */
final class TermsTest {
    public static void main(String[] args) {
        Due due = new Due();
        lastOf512Calls(due);
        dearest512Calls(due);
        laterCallsEnd(due);
        widthOne(due);
        widthSixtyFour(due);
        registerGoesRound(due);
        noPolynomial(due);
        firstAtFirst(due);
        wBitsStay(due);
        highestBitFirst(due);
        lowestBitFirstWithIn(due);
        turnedRoundWithOut(due);
        lastIsNotTurned(due);
        due.end();
    }

    private static void lastOf512Calls(Due due) {
        due.sentence("an object is used for at most 512 calls");
        for (int way = 0; way < 4; way++) {
            Run x = new Run(due);
            CRC32 library = new CRC32();
            while (x.callsLeft() > 1) {
                int b = x.callsLeft() * 77 % 256;
                x.feed(b, 1);
                library.update(b);
            }
            x.due(x.check(way), library.getValue());
            due.same("calls left", x.callsLeft(), 0);
        }
    }

    private static void dearest512Calls(Due due) {
        due.sentence("512 calls of which each has the most to do");
        Run x = new Run(due);
        x.kind(64, 0x42F0E1EBA9EA3693L, -1, true, true, -1);
        x.feed(255, 5000);
        while (x.callsLeft() > 0) {
            x.due(x.holds(), true);
        }
    }

    /** What they answer is free, but LANGUAGE.md lets no call throw. */
    private static void laterCallsEnd(Due due) {
        due.sentence("what later calls answer is free");
        Random source = new Random(513);
        SliceChecks x = new SliceChecks();
        for (int i = 0; i < 3 * Run.MOST_CALLS; i++) {
            int any = source.nextInt() >> source.nextInt(32);
            x.kind(any, any, any, i % 2 == 0, i % 3 == 0, any);
            x.feed(any & 255, 1 + (any & 15));
            x.flip(any);
            x.check(any);
            x.part(any, any);
            x.joined(any, any, any);
            x.entry(any, any);
            x.zeros(any, any);
            x.round();
            x.count(any);
            x.told(any);
        }
        due.same("holds()", x.holds(), true);
    }

    /** A register of one bit with polynomial 1 counts whether the bits 1 are odd. */
    private static void widthOne(Due due) {
        due.sentence("a width w (1)");
        for (int numbers = 0; numbers < 4; numbers++) {
            int first = numbers % 2;
            int last = numbers / 2;
            Run x = new Run(due);
            x.kind(1, 1, first, false, true, last);
            x.checks(first ^ last);
            int ones = 0;
            for (int b : new int[] {1, 128, 255, 7, 0, 254, 16, 99, 100, 101}) {
                x.feed(b, 1);
                ones += Integer.bitCount(b);
                x.checks(first ^ ones % 2 ^ last);
            }
            x.kind(1, 0, first, true, false, last);
            x.checks(last);
        }
    }

    /** With x^64 + 1 and FIRST 0 eight bytes are the register, and sixteen the sum of two. */
    private static void widthSixtyFour(Due due) {
        due.sentence("a width w (64)");
        Run x = new Run(due);
        x.kind(64, 1, 0, false, false, 0);
        feedWord(x, 0xFEDCBA9876543210L);
        x.checks(0xFEDCBA9876543210L);
        x.feed(0xAB, 1);
        x.checks(0xDCBA9876543210FEL ^ 0xAB);
        x.clear();
        feedWord(x, 0xFEDCBA9876543210L);
        feedWord(x, -1);
        x.checks(~0xFEDCBA9876543210L);
        x.kind(64, 1, Long.MIN_VALUE, false, false, Long.MIN_VALUE);
        x.checks(~0xFEDCBA9876543210L);
    }

    private static void feedWord(Run x, long word) {
        for (int shift = 56; shift >= 0; shift -= 8) {
            x.feed((int) (word >>> shift & 255), 1);
        }
    }

    private static void registerGoesRound(Due due) {
        due.sentence("the register doubled, plus the polynomial; w bits stay");
        for (int width = 1; width <= 64; width++) {
            Run x = new Run(due);
            x.kind(width, 1, 1, false, false, 0);
            for (int bytes = 0; bytes <= 17; bytes++) {
                x.checks(1L << 8 * bytes % width);
                x.feed(0, 1);
            }
        }
    }

    private static void noPolynomial(Due due) {
        due.sentence("its lower w coefficients as bits; that of x^w is 1 (polynomial 0)");
        for (int width = 1; width <= 64; width++) {
            long mask = -1L >>> 64 - width;
            Run x = new Run(due);
            x.kind(width, 0, -1, false, false, 0);
            for (int bytes = 0; bytes <= 9; bytes++) {
                x.checks(8 * bytes >= width ? 0 : mask << 8 * bytes & mask);
                x.feed(255, 1);
            }
        }
    }

    private static void firstAtFirst(Due due) {
        due.sentence("the register has w bits, FIRST at first");
        long first = 0x923456789ABCDEF1L;
        for (int width = 1; width <= 64; width++) {
            Run x = new Run(due);
            x.kind(width, -1, first, true, false, 0);
            x.checks(first & -1L >>> 64 - width);
            x.kind(width, -1, first, false, true, 0);
            x.checks(Long.reverse(first << 64 - width) & -1L >>> 64 - width);
        }
    }

    private static void wBitsStay(Due due) {
        due.sentence("w bits stay");
        for (int width = 1; width < 64; width++) {
            for (boolean out : new boolean[] {false, true}) {
                Run x = new Run(due);
                x.kind(width, -1, -1, out, out, -1);
                x.feed(0xA7, 13);
                long all = 0;
                for (int way = 0; way < 4; way++) {
                    all |= x.check(way);
                }
                all |= x.part(3, 12) | x.part(5, 5) | x.joined(-1, -1, 9) | x.joined(-1, 0, 0);
                all |= x.entry(0, 255) | x.entry(7, 255) | x.zeros(-1, 0) | x.zeros(-1, 77);
                all |= x.told(0) | x.told(1) | x.told(2);
                due.same("bits above width " + width, all >>> width, 0);
            }
        }
    }

    private static void highestBitFirst(Due due) {
        due.sentence("a byte is eight bits, the highest first");
        Run x = new Run(due);
        x.kind(64, 1, 0, false, false, 0);
        x.feed(0x01, 1);
        x.checks(0x01);
        x.feed(0x80, 1);
        x.checks(0x0180);
        x.feed(0x35, 1);
        x.checks(0x018035);
    }

    private static void lowestBitFirstWithIn(Due due) {
        due.sentence("but with IN the lowest first");
        Run x = new Run(due);
        x.kind(64, 1, 0, true, false, 0);
        x.feed(0x01, 1);
        x.checks(0x80);
        x.feed(0x80, 1);
        x.checks(0x8001);
        x.feed(0x35, 1);
        x.checks(0x8001AC);
    }

    private static void turnedRoundWithOut(Due due) {
        due.sentence("with OUT: its w bits turned round");
        Random source = new Random(14);
        for (int width = 1; width <= 64; width++) {
            Kind kind = Kind.any(width, source);
            Run x = new Run(due);
            x.feed(Kind.DIGITS);
            x.kind(width, kind.polynomial(), kind.first(), kind.in(), false, 0);
            long plain = x.check(0);
            x.kind(width, kind.polynomial(), kind.first(), kind.in(), true, 0);
            x.checks(Long.reverse(plain) >>> 64 - width);
        }
    }

    private static void lastIsNotTurned(Due due) {
        due.sentence("plus LAST (exclusive or)");
        Run x = new Run(due);
        x.kind(16, 0x1021, 0, false, true, 0x0001);
        x.checks(0x0001);
        x.kind(16, 0x1021, 0x0001, false, true, 0x0001);
        x.checks(0x8001);
        x.kind(16, 0x1021, 0x8000, false, true, 0x0001);
        x.checks(0x0000);
    }
}
