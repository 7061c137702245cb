import java.util.Random;

/** Promise 12: the theorem is true of every row and kind, so an answer False is always wrong. */
final class HoldsTest {
    public static void main(String[] args) {
        Due due = new Due();
        everyLengthUpToTheLastCut(due);
        everyWidth(due);
        fullRow(due);
        nothingChanges(due);
        due.end();
    }

    private static void everyLengthUpToTheLastCut(Due due) {
        Random source = new Random(12);
        SliceChecks x = new SliceChecks();
        for (int length = 0; length <= 80; length++) {
            due.same("holds() of " + length + " bytes", x.holds(), true);
            x.feed(source.nextInt(256), 1);
        }
    }

    private static void everyWidth(Due due) {
        Random source = new Random(120);
        for (int width = 1; width <= 64; width++) {
            SliceChecks x = new SliceChecks();
            for (int length : new int[] {0, 1, 6, 8, 57}) {
                for (int i = 0; i < length; i++) {
                    x.feed(source.nextInt(256), 1);
                }
                Kind kind = Kind.any(width, source);
                kind.giveTo(x);
                due.same("holds() of " + x.count(0) + " bytes with " + kind, x.holds(), true);
            }
        }
        SliceChecks x = new SliceChecks();
        x.feed(200, 75);
        for (int width = 1; width <= 64; width++) {
            x.kind(width, 0, source.nextLong(), true, false, source.nextLong());
            due.same("holds() with polynomial 0, width " + width, x.holds(), true);
        }
    }

    private static void fullRow(Due due) {
        Random source = new Random(1200);
        SliceChecks x = new SliceChecks();
        while (x.feed(source.nextInt(256), 1)) {
            continue;
        }
        due.same("count(0)", x.count(0), 5000);
        for (Kind kind : Kind.PUBLISHED) {
            kind.giveTo(x);
            due.same("holds() of a full row with " + kind, x.holds(), true);
        }
    }

    private static void nothingChanges(Due due) {
        SliceChecks x = new SliceChecks();
        Kind.feed(x, Kind.DIGITS);
        x.holds();
        due.same("count(0)", x.count(0), 9);
        for (int way = 0; way < 4; way++) {
            due.same("check(" + way + ")", x.check(way), 0xCBF43926L);
        }
    }
}
