import java.util.Random;

/** Promise 8. */
final class JoinedTest {
    private static final int MAX = Integer.MAX_VALUE;

    public static void main(String[] args) {
        Due due = new Due();
        partsOfRows(due);
        knownJoins(due);
        manyBytes(due);
        lowerBitsCount(due);
        fewerThanNone(due);
        due.end();
    }

    private static void partsOfRows(Due due) {
        Random source = new Random(8);
        for (int width = 1; width <= 64; width++) {
            SliceChecks x = new SliceChecks();
            Kind kind = Kind.any(width, source);
            kind.giveTo(x);
            int length = 30;
            for (int i = 0; i < length; i++) {
                x.feed(source.nextInt(256), 1);
            }
            for (int cut = 0; cut <= length; cut++) {
                long joined = x.joined(x.part(0, cut), x.part(cut, length), length - cut);
                due.same("joined at " + cut + " with " + kind, joined, x.check(0));
            }
        }
    }

    private static void knownJoins(Due due) {
        SliceChecks x = new SliceChecks();
        due.same("joined(0, 0, 0)", x.joined(0, 0, 0), 0);
        due.same("joined(1, 2, 3)", x.joined(1, 2, 3), 29518389L);
        due.same("joined(-1, 5, MAX)", x.joined(-1, 5, MAX), 4278635452L);
        long all = 0xCBF43926L;
        due.same("joined behind nothing", x.joined(0, all, 9), all);
        due.same("joined with nothing", x.joined(all, 0, 0), all);
    }

    private static void manyBytes(Due due) {
        Random source = new Random(88);
        int[] counts = {0, 1, 2, 255, 256, 5000, 65535, 1 << 28, (1 << 28) + 1, 1 << 30, MAX - 1, MAX};
        for (int width = 1; width <= 64; width++) {
            SliceChecks x = new SliceChecks();
            SlowChecks slow = new SlowChecks();
            Kind kind = Kind.any(width, source);
            kind.giveTo(x);
            kind.giveTo(slow);
            for (int bytes : counts) {
                long a = source.nextLong();
                long b = source.nextLong();
                due.same("joined(" + a + ", " + b + ", " + bytes + ") with " + kind,
                        x.joined(a, b, bytes), slow.joined(a, b, bytes));
            }
        }
    }

    private static void lowerBitsCount(Due due) {
        for (boolean out : new boolean[] {false, true}) {
            SliceChecks x = new SliceChecks();
            x.kind(12, 0x80F, 0x123, true, out, 0x456);
            long plain = x.joined(0xABC, 0xDEF, 100);
            due.same("joined with bits above", x.joined(-1L << 12 | 0xABC, 0xDEF, 100), plain);
            due.same("joined with bits above", x.joined(0xABC, -1L << 12 | 0xDEF, 100), plain);
            due.same("joined is 12 bits wide", plain >>> 12, 0);
        }
    }

    private static void fewerThanNone(Due due) {
        SliceChecks x = new SliceChecks();
        for (int bytes : new int[] {-1, -2, Integer.MIN_VALUE}) {
            due.same("joined(5, 7, " + bytes + ")", x.joined(5, 7, bytes), 0);
        }
    }
}
