import java.util.Random;

/** Promise 10. */
final class ZerosTest {
    public static void main(String[] args) {
        Due due = new Due();
        knownZeros(due);
        bitAfterBit(due);
        manyZeros(due);
        notSoMany(due);
        due.end();
    }

    private static void knownZeros(Due due) {
        SliceChecks x = new SliceChecks();
        due.same("zeros(0, 1000000)", x.zeros(0, 1000000), 0);
        due.same("zeros(1, 31)", x.zeros(1, 31), 0x80000000L);
        due.same("zeros(1, 32)", x.zeros(1, 32), 0x04C11DB7L);
        due.same("zeros(-1, 0)", x.zeros(-1, 0), 0xFFFFFFFFL);
        x.kind(8, 7, 0, false, false, 0);
        due.same("zeros(5, 100)", x.zeros(5, 100), 238);
        due.same("zeros(-1, 1000000)", x.zeros(-1, 1000000), 245);
        due.same("zeros(0x1FF, 0)", x.zeros(0x1FF, 0), 0xFF);
    }

    private static void bitAfterBit(Due due) {
        Random source = new Random(10);
        for (int width = 1; width <= 64; width++) {
            Kind kind = Kind.any(width, source);
            SliceChecks x = new SliceChecks();
            kind.giveTo(x);
            long mask = -1L >>> 64 - width;
            long start = source.nextLong();
            long register = start & mask;
            for (int bits = 0; bits <= 130; bits++) {
                due.same("zeros(" + start + ", " + bits + ") with " + kind,
                        x.zeros(start, bits), register);
                boolean highest = (register >>> width - 1 & 1) == 1;
                register = (register << 1 ^ (highest ? kind.polynomial() : 0)) & mask;
            }
        }
    }

    private static void manyZeros(Due due) {
        Random source = new Random(100);
        for (int width = 1; width <= 64; width++) {
            Kind kind = Kind.any(width, source);
            SliceChecks x = new SliceChecks();
            SlowChecks slow = new SlowChecks();
            kind.giveTo(x);
            kind.giveTo(slow);
            for (int bits : new int[] {4096, 65535, 524288, 999999, 1000000}) {
                long start = source.nextLong();
                due.same("zeros(" + start + ", " + bits + ") with " + kind,
                        x.zeros(start, bits), slow.zeros(start, bits));
            }
        }
    }

    private static void notSoMany(Due due) {
        SliceChecks x = new SliceChecks();
        for (int bits : new int[] {-1, 1000001, Integer.MIN_VALUE, Integer.MAX_VALUE}) {
            due.same("zeros(1, " + bits + ")", x.zeros(1, bits), 0);
        }
    }
}
