/** Promise 5. */
final class FlipTest {
    public static void main(String[] args) {
        Due due = new Due();
        for (boolean in : new boolean[] {false, true}) {
            eachBit(due, in);
            noneSuch(due, in);
        }
        fullRow(due);
        flipBetweenKinds(due);
        due.end();
    }

    /** The flipped row must have the check of a row that was fed so. */
    private static void eachBit(Due due, boolean in) {
        int bytes = 11;
        SliceChecks x = new SliceChecks();
        x.kind(64, 0x42F0E1EBA9EA3693L, 5, in, false, 9);
        for (int i = 0; i < bytes; i++) {
            x.feed(i * 23, 1);
        }
        long before = x.check(0);
        for (int bit = 0; bit < 8 * bytes; bit++) {
            SliceChecks fed = new SliceChecks();
            fed.kind(64, 0x42F0E1EBA9EA3693L, 5, in, false, 9);
            for (int i = 0; i < bytes; i++) {
                int mask = i == bit / 8 ? (in ? 1 << bit % 8 : 128 >> bit % 8) : 0;
                fed.feed(i * 23 ^ mask, 1);
            }
            due.same("flip(" + bit + ")", x.flip(bit), true);
            due.same("check(0) behind flip(" + bit + ")", x.check(0), fed.check(0));
            due.same("check(3) behind flip(" + bit + ")", x.check(3), fed.check(3));
            due.same("flip(" + bit + ") again", x.flip(bit), true);
            due.same("check(0) behind two flips", x.check(0), before);
        }
        due.same("count(0)", x.count(0), bytes);
    }

    private static void noneSuch(Due due, boolean in) {
        SliceChecks x = new SliceChecks();
        x.kind(32, 0x04C11DB7L, -1, in, in, -1);
        due.same("flip(0) of no bytes", x.flip(0), false);
        Kind.feed(x, Kind.DIGITS);
        long before = x.check(2);
        int[] wrong = {-1, -7, -8, 72, 73, 40000, Integer.MAX_VALUE, Integer.MIN_VALUE};
        for (int i : wrong) {
            due.same("flip(" + i + ")", x.flip(i), false);
            due.same("check(2) behind flip(" + i + ")", x.check(2), before);
        }
        due.same("flip(71)", x.flip(71), true);
    }

    private static void fullRow(Due due) {
        SliceChecks x = new SliceChecks();
        x.feed(0, 5000);
        due.same("flip(39999)", x.flip(39999), true);
        due.same("flip(40000)", x.flip(40000), false);
        due.same("part(4999, 5000)", x.part(4999, 5000), checkOfOne(128));
        due.same("check(3)", x.check(3), x.check(0));
    }

    /** IN tells which bit is meant, but the byte that was flipped stays when the kind changes. */
    private static void flipBetweenKinds(Due due) {
        SliceChecks x = new SliceChecks();
        x.feed(0, 1);
        due.same("flip(0) with IN", x.flip(0), true);
        due.same("check(0) of a byte 1", x.check(0), checkOfOne(1));
        x.kind(8, 7, 0, false, false, 0);
        due.same("check(0) of a byte 1", x.check(0), x.entry(0, 1));
        due.same("flip(0) without IN", x.flip(0), true);
        due.same("check(0) of a byte 129", x.check(0), x.entry(0, 129));
        due.same("flip(7) without IN", x.flip(7), true);
        x.kind(32, 0x04C11DB7L, -1, true, true, -1);
        due.same("check(0) of a byte 128", x.check(0), checkOfOne(128));
    }

    private static long checkOfOne(int b) {
        SliceChecks x = new SliceChecks();
        x.feed(b, 1);
        return x.check(0);
    }
}
