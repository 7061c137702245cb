/** Promise 13. */
final class CountTest {
    public static void main(String[] args) {
        Due due = new Due();
        SliceChecks x = new SliceChecks();
        due.same("BAD", SliceChecks.BAD, -1);
        x.feed(1, 3000);
        due.same("count(0)", x.count(0), 3000);
        x.feed(1, 2000);
        due.same("count(0)", x.count(0), 5000);
        for (int width : new int[] {1, 63, 64}) {
            for (int both = 0; both < 4; both++) {
                x.kind(width, 1, 1, both % 2 == 1, both / 2 == 1, 1);
                due.same("count(0)", x.count(0), 5000);
                due.same("count(1)", x.count(1), width);
                due.same("count(2)", x.count(2), both % 2);
                due.same("count(3)", x.count(3), both / 2);
            }
        }
        for (int what : new int[] {-1, 4, 5, Integer.MAX_VALUE, Integer.MIN_VALUE}) {
            due.same("count(" + what + ")", x.count(what), SliceChecks.BAD);
        }
        due.end();
    }
}
