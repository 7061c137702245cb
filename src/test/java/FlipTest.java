/** Promise 5. */
final class FlipTest {
    private static final long POLYNOMIAL = 0x42F0E1EBA9EA3693L;

    public static void main(String[] args) {
        Due due = new Due();
        for (boolean in : new boolean[] {false, true}) {
            eachBit(due, in);
            firstAndLastBit(due, in);
            lessThanNone(due, in);
            behindTheLast(due, in);
            noBytes(due, in);
        }
        fullRow(due);
        fullRowWithoutIn(due);
        betweenKinds(due);
        behindClear(due);
        due.end();
    }

    private static Run fed(Due due, boolean in, int changedByte, int mask) {
        Run x = new Run(due);
        x.kind(64, POLYNOMIAL, 5, in, false, 9);
        for (int i = 0; i < 11; i++) {
            x.feed(i * 23 ^ (i == changedByte ? mask : 0), 1);
        }
        return x;
    }

    /** The flipped row must have the check of a row that was fed so. */
    private static void eachBit(Due due, boolean in) {
        due.sentence("byte i / 8; of it the highest is 0, but with IN the lowest; IN " + in);
        Run x = fed(due, in, -1, 0);
        long before = x.check(0);
        for (int bit = 0; bit < 88; bit++) {
            int mask = in ? 1 << bit % 8 : 128 >> bit % 8;
            long changed = fed(due, in, bit / 8, mask).check(1);
            x.due(x.flip(bit), true);
            x.due(x.check(bit % 4), changed);
            x.due(x.flip(bit), true);
            x.due(x.check(3 - bit % 4), before);
        }
        x.due(x.count(0), 11);
    }

    private static void firstAndLastBit(Due due, boolean in) {
        due.sentence("bit i of the row: the first and the last; IN " + in);
        Run x = new Run(due);
        // x^64 + 1 lets the eight bytes be read off the check as they came.
        x.kind(64, 1, 0, in, false, 0);
        x.feed(0, 8);
        x.due(x.flip(0), true);
        x.checks(Long.MIN_VALUE);
        x.due(x.flip(63), true);
        x.checks(Long.MIN_VALUE | 1);
        x.due(x.flip(0), true);
        x.due(x.flip(63), true);
        x.checks(0);
    }

    private static void refused(Due due, boolean in, int i) {
        Run x = new Run(due);
        x.kind(64, POLYNOMIAL, -1, in, in, -1);
        x.feed(Kind.DIGITS);
        long before = x.check(2);
        x.due(x.flip(i), false);
        x.due(x.count(0), 9);
        x.checks(before);
    }

    /** -1 / 8 is 0 in Java, but there is no bit -1 of byte 0. */
    private static void lessThanNone(Due due, boolean in) {
        due.sentence("False: none such (a bit before the first); IN " + in);
        for (int i : new int[] {-1, -7, -8, -9, -64, -65, -72, Integer.MIN_VALUE}) {
            refused(due, in, i);
        }
    }

    private static void behindTheLast(Due due, boolean in) {
        due.sentence("False: none such (a bit behind the last); IN " + in);
        for (int i : new int[] {72, 73, 79, 80, 127, 128, 39999, 40000, 40064, Integer.MAX_VALUE}) {
            refused(due, in, i);
        }
    }

    private static void noBytes(Due due, boolean in) {
        due.sentence("False: none such (no bytes); IN " + in);
        Run x = new Run(due);
        x.kind(64, POLYNOMIAL, 3, in, false, 0);
        for (int i : new int[] {0, 1, 7, 8, -1}) {
            x.due(x.flip(i), false);
        }
        x.checks(3);
        x.feed(0, 1);
        x.checks(x.zeros(3, 8));
    }

    private static void fullRow(Due due) {
        due.sentence("bit i of a full row, with IN");
        Run x = new Run(due);
        x.feed(0, 5000);
        x.due(x.flip(40000), false);
        x.checks(0xD8E50EA8L);
        x.due(x.flip(39999), true);
        x.checks(0x355D8D88L);
        x.due(x.part(4999, 5000), 0x3FBA6CADL);
    }

    private static void fullRowWithoutIn(Due due) {
        due.sentence("bit i of a full row, without IN");
        Run x = new Run(due);
        x.feed(0, 5000);
        x.kind(8, 7, 0, false, false, 0);
        x.due(x.flip(40000), false);
        x.checks(0);
        x.due(x.flip(39999), true);
        x.checks(7);
        x.kind(32, 0x04C11DB7L, -1, true, true, -1);
        x.checks(0xAFE23E3EL);
    }

    /** IN tells which bit is meant, but the byte that was flipped stays when the kind changes. */
    private static void betweenKinds(Due due) {
        due.sentence("flip between two kinds");
        Run x = new Run(due);
        x.feed(0, 1);
        x.due(x.flip(0), true);
        x.checks(0xA505DF1BL);
        x.kind(8, 7, 0, false, false, 0);
        x.checks(x.entry(0, 1));
        x.due(x.flip(0), true);
        x.checks(x.entry(0, 129));
        x.due(x.flip(7), true);
        x.checks(x.entry(0, 128));
        x.kind(32, 0x04C11DB7L, -1, true, true, -1);
        x.checks(0x3FBA6CADL);
    }

    private static void behindClear(Due due) {
        due.sentence("False: none such (bytes that were cleared)");
        Run x = new Run(due);
        x.feed(0, 10);
        x.clear();
        x.feed(0, 2);
        x.due(x.flip(15), true);
        x.due(x.flip(16), false);
        x.due(x.flip(79), false);
        x.due(x.flip(15), true);
        x.feed(0, 1);
        x.due(x.check(0), x.part(0, 3));
    }
}
