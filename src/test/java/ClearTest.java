/** Promise 4. */
final class ClearTest {
    public static void main(String[] args) {
        Due due = new Due();
        SliceChecks x = new SliceChecks();
        x.kind(16, 0x1021, 0xFFFF, false, false, 0);
        x.clear();
        due.same("count(0) of a row cleared while empty", x.count(0), 0);
        x.feed(255, 5000);
        x.check(3);
        x.clear();
        due.same("count(0)", x.count(0), 0);
        due.same("flip(0)", x.flip(0), false);
        due.same("count(1)", x.count(1), 16);
        due.same("told(1)", x.told(1), 0xFFFF);
        for (int way = 0; way < 4; way++) {
            due.same("check(" + way + ") of no bytes", x.check(way), 0xFFFF);
        }
        Kind.feed(x, Kind.DIGITS);
        due.same("count(0)", x.count(0), 9);
        for (int way = 0; way < 4; way++) {
            due.same("check(" + way + ") of new bytes", x.check(way), 0x29B1);
        }
        due.end();
    }
}
