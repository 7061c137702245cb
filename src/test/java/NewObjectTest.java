/** Promise 1. */
final class NewObjectTest {
    public static void main(String[] args) {
        Due due = new Due();
        itsKind(due);
        noBytes(due);
        firstBytes(due);
        twoObjectsShareNothing(due);
        due.end();
    }

    private static void itsKind(Due due) {
        due.sentence("the kind of 32 bits with polynomial 04C11DB7, FIRST and LAST all ones, IN and OUT");
        Run x = new Run(due);
        x.due(x.count(1), 32);
        x.due(x.count(2), 1);
        x.due(x.count(3), 1);
        x.due(x.told(0), 0x04C11DB7L);
        x.due(x.told(1), 0xFFFFFFFFL);
        x.due(x.told(2), 0xFFFFFFFFL);
        x.due(x.round(), SliceChecks.BAD);
    }

    private static void noBytes(Due due) {
        due.sentence("a new object: no bytes");
        Run x = new Run(due);
        x.due(x.count(0), 0);
        x.checks(0);
        x.due(x.flip(0), false);
        x.due(x.part(0, 0), 0);
        x.due(x.part(0, 1), 0);
        x.due(x.holds(), true);
        x.due(x.count(0), 0);
    }

    private static void firstBytes(Due due) {
        due.sentence("a new object takes bytes");
        Run x = new Run(due);
        x.feed(Kind.DIGITS);
        x.due(x.count(0), 9);
        x.checks(0xCBF43926L);
        due.sentence("a new object has room for 5,000");
        Run full = new Run(due);
        full.due(full.feed(255, 5000), true);
        full.checks(0x338AE894L);
    }

    private static void twoObjectsShareNothing(Due due) {
        due.sentence("what is done to one object is not seen in another");
        Run one = new Run(due);
        Run other = new Run(due);
        one.feed(Kind.DIGITS);
        one.check(3);
        other.kind(8, 7, 0, false, false, 0);
        other.due(other.count(0), 0);
        other.clear();
        one.checks(0xCBF43926L);
        other.checks(0);
    }
}
