/** Promise 2. */
final class KindTest {
    private static final int[] NO_WIDTHS = {0, -1, 65, 128, Integer.MAX_VALUE, Integer.MIN_VALUE};

    public static void main(String[] args) {
        Due due = new Due();
        everyWidthIsTaken(due);
        noSuchWidthChangesNothing(due);
        bytesStay(due);
        lowerBitsCount(due);
        due.end();
    }

    private static void everyWidthIsTaken(Due due) {
        SliceChecks x = new SliceChecks();
        for (int width = 1; width <= 64; width++) {
            due.same("kind of width " + width, x.kind(width, 1, 0, false, true, 0), true);
            due.same("count(1)", x.count(1), width);
            due.same("count(2)", x.count(2), 0);
            due.same("count(3)", x.count(3), 1);
        }
    }

    private static void noSuchWidthChangesNothing(Due due) {
        SliceChecks x = new SliceChecks();
        Kind.feed(x, Kind.DIGITS);
        for (int width : NO_WIDTHS) {
            due.same("kind of width " + width, x.kind(width, 7, 0, false, false, 0), false);
            due.same("count(0)", x.count(0), 9);
            due.same("count(1)", x.count(1), 32);
            due.same("count(2)", x.count(2), 1);
            due.same("count(3)", x.count(3), 1);
            due.same("told(0)", x.told(0), 0x04C11DB7L);
            due.same("told(1)", x.told(1), 0xFFFFFFFFL);
            due.same("told(2)", x.told(2), 0xFFFFFFFFL);
            for (int way = 0; way < 4; way++) {
                due.same("check(" + way + ")", x.check(way), 0xCBF43926L);
            }
        }
    }

    private static void bytesStay(Due due) {
        SliceChecks x = new SliceChecks();
        Kind.feed(x, Kind.DIGITS);
        for (Kind kind : Kind.PUBLISHED) {
            due.same("kind " + kind, kind.giveTo(x), true);
            due.same("count(0)", x.count(0), 9);
            due.same("check(0) with " + kind, x.check(0), kind.check());
        }
    }

    private static void lowerBitsCount(Due due) {
        SliceChecks x = new SliceChecks();
        Kind.feed(x, Kind.DIGITS);
        for (Kind kind : Kind.PUBLISHED) {
            long above = kind.width() == 64 ? 0 : -1L << kind.width();
            x.kind(kind.width(), kind.polynomial() ^ above, kind.first() ^ above, kind.in(),
                    kind.out(), kind.last() ^ above);
            for (int way = 0; way < 4; way++) {
                due.same("check(" + way + ") with " + kind, x.check(way), kind.check());
            }
            due.same("told(0) with " + kind, x.told(0), kind.polynomial());
            due.same("told(1) with " + kind, x.told(1), kind.first());
            due.same("told(2) with " + kind, x.told(2), kind.last());
        }
    }
}
