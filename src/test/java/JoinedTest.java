import java.util.Random;

/** Promise 8. */
final class JoinedTest {
    private static final int MAX = Integer.MAX_VALUE;

    public static void main(String[] args) {
        Due due = new Due();
        partsOfRows(due);
        knownJoins(due);
        noBytesBehind(due);
        noBytesBefore(due);
        manyBytes(due);
        mostBytes(due);
        fewerThanNone(due);
        lowerBitsCount(due);
        theRowDoesNotCount(due);
        due.end();
    }

    private static void partsOfRows(Due due) {
        due.sentence("the check of a row with one behind it");
        Random source = new Random(8);
        int length = 30;
        for (int width = 1; width <= 64; width++) {
            Run x = new Run(due, Kind.any(width, source));
            for (int i = 0; i < length; i++) {
                x.feed(source.nextInt(256), 1);
            }
            long whole = x.check(0);
            for (int cut = 0; cut <= length; cut += 3) {
                x.due(x.joined(x.part(0, cut), x.part(cut, length), length - cut), whole);
            }
        }
    }

    private static void knownJoins(Due due) {
        due.sentence("joined, known answers");
        Run x = new Run(due);
        x.due(x.joined(0, 0, 0), 0);
        x.due(x.joined(1, 2, 3), 29518389L);
        x.due(x.joined(5, 7, 1), 0x706AF488L);
        x.due(x.joined(-1, 5, MAX), 4278635452L);
    }

    private static void noBytesBehind(Due due) {
        due.sentence("so many bytes (0)");
        Random source = new Random(80);
        for (int width = 1; width <= 64; width++) {
            Run x = new Run(due, Kind.any(width, source));
            long ofNone = x.part(0, 0);
            long a = source.nextLong() >>> 64 - width;
            x.due(x.joined(a, ofNone, 0), a);
            x.due(x.joined(ofNone, ofNone, 0), ofNone);
        }
        Run x = new Run(due);
        x.due(x.joined(0xCBF43926L, 0, 0), 0xCBF43926L);
        x.due(x.joined(5, 7, 0), 2);
    }

    private static void noBytesBefore(Due due) {
        due.sentence("a row of no bytes with one behind it");
        Random source = new Random(81);
        for (int width = 1; width <= 64; width++) {
            Run x = new Run(due, Kind.any(width, source));
            long ofNone = x.part(0, 0);
            long b = source.nextLong() >>> 64 - width;
            for (int bytes : new int[] {0, 1, 5000, MAX}) {
                x.due(x.joined(ofNone, b, bytes), b);
            }
        }
    }

    private static void manyBytes(Due due) {
        due.sentence("so many bytes (0 .. 2,147,483,647), without knowing them");
        Random source = new Random(88);
        int[] counts = {0, 1, 2, 255, 256, 5000, 65535, (1 << 28) - 1, 1 << 28, 1 << 29, 1 << 30, MAX - 1, MAX};
        for (int width = 1; width <= 64; width++) {
            Run x = new Run(due, Kind.any(width, source));
            for (int bytes : counts) {
                x.joined(source.nextLong(), source.nextLong(), bytes);
            }
        }
    }

    /**
     * With x^8 + x^2 + x + 1 a register is the same again behind 127 bits 0. The bits of
     * 2,147,483,647 bytes are more than an int holds; over 127 they leave 56, the bits of 7 bytes.
     */
    private static void mostBytes(Due due) {
        due.sentence("2,147,483,647 bytes");
        Run x = new Run(due);
        x.kind(8, 7, 0xFF, false, true, 0x55);
        x.due(x.joined(5, 7, 7), 0xEF);
        x.due(x.joined(5, 7, MAX), 0xEF);
        x.due(x.joined(5, 7, 7 + 127 * 2_000_000), 0xEF);
        // 2^31 bits leave 8 over 127, and 2^32 leave 16; in an int they would be less than 0, and 0.
        x.due(x.joined(5, 7, 1 << 28), x.joined(5, 7, 1));
        x.due(x.joined(5, 7, 1 << 29), x.joined(5, 7, 2));
    }

    private static void fewerThanNone(Due due) {
        due.sentence("0: fewer than 0");
        for (int bytes : new int[] {-1, -2, -8, -127, Integer.MIN_VALUE + 1, Integer.MIN_VALUE}) {
            Run x = new Run(due);
            x.due(x.joined(5, 7, bytes), 0);
            x.due(x.joined(0, 1, bytes), 0);
            x.due(x.joined(-1, -1, bytes), 0);
            x.kind(16, 0x1021, 0x1234, false, false, 0x00FF);
            x.due(x.joined(5, 7, bytes), 0);
            x.checks(0x12CB);
        }
    }

    private static void lowerBitsCount(Due due) {
        due.sentence("of the numbers the lower w bits count (joined)");
        for (boolean out : new boolean[] {false, true}) {
            Run x = new Run(due);
            x.kind(12, 0x80F, 0x123, true, out, 0x456);
            long plain = x.joined(0xABC, 0xDEF, 100);
            x.due(x.joined(-1L << 12 | 0xABC, 0xDEF, 100), plain);
            x.due(x.joined(0xABC, -1L << 12 | 0xDEF, 100), plain);
            x.due(x.joined(0x1ABC, 0x1DEF, 100), plain);
            due.same("joined is 12 bits wide", plain >>> 12, 0);
        }
    }

    private static void theRowDoesNotCount(Due due) {
        due.sentence("joined neither asks the row nor changes it");
        Run x = new Run(due);
        x.feed(Kind.DIGITS);
        x.due(x.joined(1, 2, 3), 29518389L);
        x.due(x.joined(1, 2, 10), new Run(due).joined(1, 2, 10));
        x.due(x.count(0), 9);
        x.checks(0xCBF43926L);
    }
}
