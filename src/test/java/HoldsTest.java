import java.util.Random;

/**
 * Promise 12: the theorem is true of every row and kind, so False is always wrong. That the checks
 * of both parts joined are the row's is asked here once more from outside, cut by cut.
 */
final class HoldsTest {
    private static final int[] CUTS = {0, 7, 14, 21, 28, 35, 42, 49, 56, 63, 70};

    public static void main(String[] args) {
        Due due = new Due();
        noBytes(due);
        everyLengthAroundTheCuts(due);
        everyWidth(due);
        noPolynomial(due);
        fullRow(due);
        behindFlips(due);
        nothingChanges(due);
        due.end();
    }

    private static void theoremHolds(Run x) {
        x.due(x.holds(), true);
        int bytes = x.count(0);
        long whole = x.check(0);
        x.checks(whole);
        for (int cut : CUTS) {
            if (cut <= bytes) {
                x.due(x.joined(x.part(0, cut), x.part(cut, bytes), bytes - cut), whole);
            }
        }
    }

    private static void noBytes(Due due) {
        due.sentence("a row of no bytes can be cut behind 0 alone");
        for (Kind kind : Kind.PUBLISHED) {
            theoremHolds(new Run(due, kind));
        }
    }

    private static void everyLengthAroundTheCuts(Due due) {
        due.sentence("each place where the row can be cut (behind 0, 7, .. up to 70 bytes)");
        Random source = new Random(12);
        for (int length = 0; length <= 80; length++) {
            Run x = new Run(due, Kind.any(1 + source.nextInt(64), source));
            for (int i = 0; i < length; i++) {
                x.feed(source.nextInt(256), 1);
            }
            theoremHolds(x);
        }
    }

    private static void everyWidth(Due due) {
        due.sentence("holds of every width");
        Random source = new Random(120);
        for (int width = 1; width <= 64; width++) {
            Run x = new Run(due);
            for (int more : new int[] {0, 1, 6, 8, 57}) {
                for (int i = 0; i < more; i++) {
                    x.feed(source.nextInt(256), 1);
                }
                x.kind(Kind.any(width, source));
                theoremHolds(x);
            }
        }
    }

    private static void noPolynomial(Due due) {
        due.sentence("holds with polynomial 0");
        Random source = new Random(121);
        for (int width = 1; width <= 64; width++) {
            Run x = new Run(due);
            x.feed(200, 75);
            x.kind(width, 0, source.nextLong(), true, false, source.nextLong());
            theoremHolds(x);
        }
    }

    private static void fullRow(Due due) {
        due.sentence("holds of a full row");
        Random source = new Random(1200);
        for (Kind kind : Kind.PUBLISHED) {
            Run x = new Run(due, kind);
            for (int i = 0; i < 250; i++) {
                x.feed(source.nextInt(256), 20);
            }
            x.due(x.count(0), 5000);
            theoremHolds(x);
        }
    }

    private static void behindFlips(Due due) {
        due.sentence("holds behind flips, kinds that are refused and a clear");
        Run x = new Run(due);
        x.feed(Kind.DIGITS);
        x.flip(71);
        x.kind(0, 1, 2, false, false, 3);
        theoremHolds(x);
        x.kind(7, 9, 1, false, true, 2);
        x.flip(71);
        theoremHolds(x);
        x.clear();
        theoremHolds(x);
    }

    private static void nothingChanges(Due due) {
        due.sentence("holds changes nothing");
        Run x = new Run(due);
        x.feed(Kind.DIGITS);
        x.holds();
        x.due(x.count(0), 9);
        x.checks(0xCBF43926L);
    }
}
