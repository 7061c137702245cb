/** Promise 13. */
final class CountTest {
    public static void main(String[] args) {
        Due due = new Due();
        bytes(due);
        width(due);
        inAndOut(due);
        bad(due);
        tooSmall(due);
        tooLarge(due);
        due.end();
    }

    private static void bytes(Due due) {
        due.sentence("0 bytes");
        Run x = new Run(due);
        x.due(x.count(0), 0);
        x.feed(1, 1);
        x.due(x.count(0), 1);
        x.feed(1, 2999);
        x.due(x.count(0), 3000);
        x.feed(1, 2000);
        x.due(x.count(0), 5000);
        x.clear();
        x.due(x.count(0), 0);
    }

    private static void width(Due due) {
        due.sentence("1 the width");
        Run x = new Run(due);
        for (int width : new int[] {1, 2, 8, 63, 64}) {
            x.kind(width, 1, 1, false, false, 1);
            x.due(x.count(1), width);
        }
    }

    private static void inAndOut(Due due) {
        due.sentence("2 whether IN, 3 OUT (1 or 0)");
        Run x = new Run(due);
        for (int both = 0; both < 4; both++) {
            x.kind(8, 7, 0, both % 2 == 1, both / 2 == 1, 0);
            x.due(x.count(2), both % 2);
            x.due(x.count(3), both / 2);
        }
    }

    private static void bad(Due due) {
        due.sentence("BAD = -1");
        due.same("BAD", SliceChecks.BAD, -1);
    }

    private static void anotherNumber(Due due, int[] wrong) {
        for (int what : wrong) {
            Run x = new Run(due);
            x.due(x.count(what), SliceChecks.BAD);
            x.feed(7, 5000);
            x.due(x.count(what), SliceChecks.BAD);
            x.due(x.count(0), 5000);
        }
    }

    private static void tooSmall(Due due) {
        due.sentence("BAD: another number (too small)");
        anotherNumber(due, new int[] {-1, -2, -4, Integer.MIN_VALUE});
    }

    private static void tooLarge(Due due) {
        due.sentence("BAD: another number (too large)");
        anotherNumber(due, new int[] {4, 5, 256, Integer.MAX_VALUE});
    }
}
