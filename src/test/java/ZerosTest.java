import java.util.Random;

/** Promise 10. */
final class ZerosTest {
    public static void main(String[] args) {
        Due due = new Due();
        bitAfterBit(due);
        none(due);
        manyZeros(due);
        mostZeros(due);
        fewerThanNone(due);
        tooMany(due);
        registerOfNone(due);
        lowerBitsCount(due);
        ofARegister(due);
        due.end();
    }

    private static void bitAfterBit(Due due) {
        due.sentence("what so many bits 0 make of a register");
        Random source = new Random(10);
        for (int width = 1; width <= 64; width++) {
            Kind kind = Kind.any(width, source);
            Run x = new Run(due, kind);
            long mask = -1L >>> 64 - width;
            long start = source.nextLong();
            long register = start & mask;
            for (int bits = 0; bits <= 130; bits++) {
                x.due(x.zeros(start, bits), register);
                boolean highest = (register >>> width - 1 & 1) == 1;
                register = (register << 1 ^ (highest ? kind.polynomial() : 0)) & mask;
            }
        }
        Run x = new Run(due);
        x.due(x.zeros(1, 1), 2);
        x.due(x.zeros(1, 31), 0x80000000L);
        x.due(x.zeros(1, 32), 0x04C11DB7L);
        x.kind(8, 7, 0, false, false, 0);
        x.due(x.zeros(5, 100), 238);
    }

    private static void none(Due due) {
        due.sentence("so many bits 0 (0)");
        Random source = new Random(101);
        for (int width = 1; width <= 64; width++) {
            Run x = new Run(due, Kind.any(width, source));
            x.due(x.zeros(0, 0), 0);
            x.due(x.zeros(1, 0), 1);
            x.due(x.zeros(-1, 0), -1L >>> 64 - width);
        }
    }

    private static void manyZeros(Due due) {
        due.sentence("so many bits 0 (0 .. 1,000,000)");
        Random source = new Random(100);
        for (int width = 1; width <= 64; width++) {
            Run x = new Run(due, Kind.any(width, source));
            for (int bits : new int[] {4096, 65535, 65536, 524287, 524288, 999999, 1000000}) {
                x.zeros(source.nextLong(), bits);
            }
        }
    }

    private static void mostZeros(Due due) {
        due.sentence("1,000,000 bits 0");
        Run x = new Run(due);
        x.due(x.zeros(1, 999999), 0xF4D745DDL);
        x.due(x.zeros(1, 1000000), 0xED6F960DL);
        x.kind(8, 7, 0, false, false, 0);
        x.due(x.zeros(-1, 1000000), 245);
        x.kind(64, 0x42F0E1EBA9EA3693L, 0, true, true, 0);
        x.due(x.zeros(-1, 1000000), -1959758895643354785L);
    }

    private static void notSoMany(Due due, int[] wrong) {
        for (int bits : wrong) {
            Run x = new Run(due);
            x.due(x.zeros(1, bits), 0);
            x.due(x.zeros(-1, bits), 0);
            x.kind(1, 1, 1, false, false, 1);
            x.due(x.zeros(1, bits), 0);
            x.kind(64, 1, -1, true, true, 0);
            x.due(x.zeros(-1, bits), 0);
            x.checks(-1);
        }
    }

    private static void fewerThanNone(Due due) {
        due.sentence("0: not so many (fewer than 0)");
        notSoMany(due, new int[] {-1, -2, -64, -1000000, Integer.MIN_VALUE});
    }

    private static void tooMany(Due due) {
        due.sentence("0: not so many (more than 1,000,000)");
        notSoMany(due, new int[] {1000001, 1000002, 1 << 20, Integer.MAX_VALUE});
    }

    private static void registerOfNone(Due due) {
        due.sentence("what bits 0 make of a register 0");
        Run x = new Run(due);
        for (int bits : new int[] {0, 1, 31, 32, 33, 1000000}) {
            x.due(x.zeros(0, bits), 0);
        }
    }

    private static void lowerBitsCount(Due due) {
        due.sentence("of the numbers the lower w bits count (zeros)");
        Run x = new Run(due);
        x.kind(8, 7, 0, false, false, 0);
        x.due(x.zeros(0x1FF, 0), 0xFF);
        x.due(x.zeros(-1L << 8, 5), 0);
        x.due(x.zeros(-1L << 8 | 5, 100), 238);
        x.kind(1, 1, 0, false, false, 0);
        x.due(x.zeros(-2, 1), 0);
        x.due(x.zeros(3, 1000000), 1);
    }

    private static void ofARegister(Due due) {
        due.sentence("a register: neither FIRST, IN, OUT, LAST nor the row count");
        Run x = new Run(due);
        x.feed(Kind.DIGITS);
        for (int both = 0; both < 4; both++) {
            x.kind(8, 7, 0x5A, both % 2 == 1, both / 2 == 1, 0xC3);
            x.due(x.zeros(5, 100), 238);
        }
        x.due(x.count(0), 9);
    }
}
