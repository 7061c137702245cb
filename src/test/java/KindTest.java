/** Promise 2. */
final class KindTest {
    private static final long CHECK_OF_0 = 0xC700;
    private static final int[] TOO_SMALL = {0, -1, -32, -64, Integer.MIN_VALUE};
    private static final int[] TOO_LARGE = {65, 66, 96, 128, 256 + 32, Integer.MAX_VALUE};

    public static void main(String[] args) {
        Due due = new Due();
        everyWidthIsTaken(due);
        noSuchWidth(due, "False: no such width (too small)", TOO_SMALL);
        noSuchWidth(due, "False: no such width (too large)", TOO_LARGE);
        refusedWithNoBytes(due);
        anotherKind(due);
        noBytesStayNone(due);
        fullRowStays(due);
        lowerBitsCount(due);
        due.end();
    }

    private static void everyWidthIsTaken(Due due) {
        due.sentence("a width w (1 .. 64)");
        Run x = new Run(due);
        for (int width = 1; width <= 64; width++) {
            x.due(x.kind(width, 1, 0, false, true, 0), true);
            x.due(x.count(1), width);
            x.due(x.count(2), 0);
            x.due(x.count(3), 1);
        }
    }

    /** Nothing of a kind that is refused may stay behind. */
    private static void noSuchWidth(Due due, String sentence, int[] widths) {
        due.sentence(sentence);
        for (int width : widths) {
            Run x = new Run(due);
            x.kind(16, 0x1021, 0x1234, true, false, 0x00FF);
            x.feed(Kind.DIGITS);
            long check = x.check(0);
            x.due(x.kind(width, 7, 8, false, true, 9), false);
            x.due(x.count(0), 9);
            x.due(x.count(1), 16);
            x.due(x.count(2), 1);
            x.due(x.count(3), 0);
            x.due(x.told(0), 0x1021);
            x.due(x.told(1), 0x1234);
            x.due(x.told(2), 0x00FF);
            x.checks(check);
            x.due(x.part(0, 9), check);
            x.due(x.entry(0, 128), 0x1021);
            // With IN still, the digit 1 becomes 0 by its bit 0.
            x.due(x.flip(0), true);
            x.due(x.part(0, 1), CHECK_OF_0);
        }
    }

    private static void refusedWithNoBytes(Due due) {
        due.sentence("False: no such width (no bytes)");
        Run x = new Run(due);
        x.due(x.kind(0, 0, 0, false, false, 0), false);
        x.due(x.kind(65, 0, 0, false, false, 0), false);
        x.feed(Kind.DIGITS);
        x.checks(0xCBF43926L);
    }

    private static void anotherKind(Due due) {
        due.sentence("another kind; bytes stay");
        Run x = new Run(due);
        x.feed(Kind.DIGITS);
        for (Kind kind : Kind.PUBLISHED) {
            x.due(x.kind(kind), true);
            x.due(x.count(0), 9);
            x.checks(kind.check());
            x.due(x.kind(kind), true);
            x.due(x.check(0), kind.check());
        }
    }

    private static void noBytesStayNone(Due due) {
        due.sentence("bytes stay (none)");
        Run x = new Run(due);
        x.due(x.kind(8, 7, 0x12, false, false, 0), true);
        x.due(x.count(0), 0);
        x.checks(0x12);
        x.due(x.kind(64, 0x1B, -1, true, true, 0), true);
        x.due(x.count(0), 0);
        x.checks(-1);
    }

    private static void fullRowStays(Due due) {
        due.sentence("bytes stay (5,000)");
        Run x = new Run(due);
        x.feed(65, 5000);
        x.due(x.kind(16, 0x1021, 0, false, false, 0), true);
        x.due(x.count(0), 5000);
        x.due(x.feed(0, 1), false);
        x.checks(x.part(0, 5000));
        x.due(x.kind(32, 0x04C11DB7L, -1, true, true, -1), true);
        x.due(x.count(0), 5000);
        x.checks(0x131A7BBEL);
    }

    private static void lowerBitsCount(Due due) {
        due.sentence("of the numbers the lower w bits count");
        for (Kind kind : Kind.PUBLISHED) {
            long above = kind.width() == 64 ? 0 : -1L << kind.width();
            Run x = new Run(due);
            x.feed(Kind.DIGITS);
            x.kind(kind.width(), kind.polynomial() ^ above, kind.first() ^ above, kind.in(),
                    kind.out(), kind.last() ^ above);
            x.checks(kind.check());
            x.due(x.told(0), kind.polynomial());
            x.due(x.told(1), kind.first());
            x.due(x.told(2), kind.last());
        }
    }
}
