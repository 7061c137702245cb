/** Promise 1. */
final class NewObjectTest {
    public static void main(String[] args) {
        Due due = new Due();
        SliceChecks x = new SliceChecks();
        due.same("count(0)", x.count(0), 0);
        due.same("count(1)", x.count(1), 32);
        due.same("count(2)", x.count(2), 1);
        due.same("count(3)", x.count(3), 1);
        due.same("told(0)", x.told(0), 0x04C11DB7L);
        due.same("told(1)", x.told(1), 0xFFFFFFFFL);
        due.same("told(2)", x.told(2), 0xFFFFFFFFL);
        for (int way = 0; way < 4; way++) {
            due.same("check(" + way + ") of no bytes", x.check(way), 0);
        }
        Kind.feed(x, Kind.DIGITS);
        for (int way = 0; way < 4; way++) {
            due.same("check(" + way + ")", x.check(way), 0xCBF43926L);
        }
        twoObjectsShareNothing(due);
        due.end();
    }

    private static void twoObjectsShareNothing(Due due) {
        SliceChecks one = new SliceChecks();
        SliceChecks other = new SliceChecks();
        Kind.feed(one, Kind.DIGITS);
        one.check(3);
        other.kind(8, 7, 0, false, false, 0);
        due.same("count(0) of the other", other.count(0), 0);
        due.same("check(2) of the one", one.check(2), 0xCBF43926L);
    }
}
