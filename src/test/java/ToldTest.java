/** Promise 14. */
final class ToldTest {
    public static void main(String[] args) {
        Due due = new Due();
        SliceChecks x = new SliceChecks();
        for (int width = 1; width <= 64; width++) {
            long mask = -1L >>> 64 - width;
            for (boolean round : new boolean[] {false, true}) {
                x.kind(width, 0xA5A5A5A5A5A5A5A5L, 0x123456789ABCDEF0L, round, round, -1L);
                due.same("told(0) of width " + width, x.told(0), 0xA5A5A5A5A5A5A5A5L & mask);
                due.same("told(1) of width " + width, x.told(1), 0x123456789ABCDEF0L & mask);
                due.same("told(2) of width " + width, x.told(2), mask);
            }
        }
        for (int what : new int[] {-1, 3, 4, Integer.MAX_VALUE, Integer.MIN_VALUE}) {
            due.same("told(" + what + ")", x.told(what), 0);
        }
        due.end();
    }
}
