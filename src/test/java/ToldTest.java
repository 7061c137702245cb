/** Promise 14. */
final class ToldTest {
    private static final long POLYNOMIAL = 0xA5A5A5A5A5A5A5A5L;
    private static final long FIRST = 0x923456789ABCDEF1L;
    private static final long LAST = 0xC3C3C3C3C3C3C3C3L;

    public static void main(String[] args) {
        Due due = new Due();
        ofTheKind(due);
        lowerBits(due);
        notByTheRow(due);
        tooSmall(due);
        tooLarge(due);
        due.end();
    }

    private static void ofTheKind(Due due) {
        due.sentence("of the kind: 0 the polynomial, 1 FIRST, 2 LAST");
        for (Kind kind : Kind.PUBLISHED) {
            Run x = new Run(due, kind);
            x.due(x.told(0), kind.polynomial());
            x.due(x.told(1), kind.first());
            x.due(x.told(2), kind.last());
        }
    }

    private static void lowerBits(Due due) {
        due.sentence("of the numbers the lower w bits count (told)");
        for (int width = 1; width <= 64; width++) {
            long mask = -1L >>> 64 - width;
            for (boolean both : new boolean[] {false, true}) {
                Run x = new Run(due);
                x.kind(width, POLYNOMIAL, FIRST, both, both, LAST);
                x.due(x.told(0), POLYNOMIAL & mask);
                x.due(x.told(1), FIRST & mask);
                x.due(x.told(2), LAST & mask);
            }
        }
    }

    private static void notByTheRow(Due due) {
        due.sentence("FIRST stays FIRST when bytes have come");
        Run x = new Run(due);
        x.feed(Kind.DIGITS);
        x.checks(0xCBF43926L);
        x.due(x.told(1), 0xFFFFFFFFL);
        x.due(x.told(2), 0xFFFFFFFFL);
    }

    private static void anotherNumber(Due due, int[] wrong) {
        for (int what : wrong) {
            Run x = new Run(due);
            x.due(x.told(what), 0);
            x.kind(64, -1, -1, false, false, -1);
            x.due(x.told(what), 0);
            x.due(x.told(0), -1);
        }
    }

    private static void tooSmall(Due due) {
        due.sentence("0: another number (too small)");
        anotherNumber(due, new int[] {-1, -2, -3, Integer.MIN_VALUE});
    }

    private static void tooLarge(Due due) {
        due.sentence("0: another number (too large)");
        anotherNumber(due, new int[] {3, 4, 256, Integer.MAX_VALUE});
    }
}
