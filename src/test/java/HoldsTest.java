import java.lang.reflect.Field;
import java.util.Random;

/**
 * Promise 12: the theorem is true of every row and kind, so False is always wrong. That the checks
 * of both parts joined are the row's is asked here once more from outside, cut by cut. What holds
 * looks at can be seen only in objects that were broken on purpose.
 */
final class HoldsTest {
    private static final int[] CUTS = {0, 7, 14, 21, 28, 35, 42, 49, 56, 63, 70};
    private static final int[] NO_CUTS = {1, 6, 8, 13, 15, 20, 69, 71, 77, 84};
    private static final int BYTES_TO_BREAK = 88;

    public static void main(String[] args) throws ReflectiveOperationException {
        Due due = new Due();
        noBytes(due);
        everyLengthAroundTheCuts(due);
        everyWidth(due);
        noPolynomial(due);
        fullRow(due);
        behindFlips(due);
        nothingChanges(due);
        brokenTables(due);
        brokenWays(due);
        due.end();
    }

    private static void theoremHolds(Run x) {
        x.due(x.holds(), true);
        int bytes = x.count(0);
        long whole = x.check(0);
        x.checks(whole);
        for (int cut : CUTS) {
            if (cut <= bytes) {
                x.due(x.joined(x.part(0, cut), x.part(cut, bytes), bytes - cut), whole);
            }
        }
    }

    private static void noBytes(Due due) {
        due.sentence("a row of no bytes can be cut behind 0 alone");
        for (Kind kind : Kind.PUBLISHED) {
            theoremHolds(new Run(due, kind));
        }
    }

    private static void everyLengthAroundTheCuts(Due due) {
        due.sentence("each place where the row can be cut (behind 0, 7, .. up to 70 bytes)");
        Random source = new Random(12);
        for (int length = 0; length <= 80; length++) {
            Run x = new Run(due, Kind.any(1 + source.nextInt(64), source));
            for (int i = 0; i < length; i++) {
                x.feed(source.nextInt(256), 1);
            }
            theoremHolds(x);
        }
    }

    private static void everyWidth(Due due) {
        due.sentence("holds of every width");
        Random source = new Random(120);
        for (int width = 1; width <= 64; width++) {
            Run x = new Run(due);
            for (int more : new int[] {0, 1, 6, 8, 57}) {
                for (int i = 0; i < more; i++) {
                    x.feed(source.nextInt(256), 1);
                }
                x.kind(Kind.any(width, source));
                theoremHolds(x);
            }
        }
    }

    private static void noPolynomial(Due due) {
        due.sentence("holds with polynomial 0");
        Random source = new Random(121);
        for (int width = 1; width <= 64; width++) {
            Run x = new Run(due);
            x.feed(200, 75);
            x.kind(width, 0, source.nextLong(), true, false, source.nextLong());
            theoremHolds(x);
        }
    }

    private static void fullRow(Due due) {
        due.sentence("holds of a full row");
        Random source = new Random(1200);
        for (Kind kind : Kind.PUBLISHED) {
            Run x = new Run(due, kind);
            for (int i = 0; i < 250; i++) {
                x.feed(source.nextInt(256), 20);
            }
            x.due(x.count(0), 5000);
            theoremHolds(x);
        }
    }

    private static void behindFlips(Due due) {
        due.sentence("holds behind flips, kinds that are refused and a clear");
        Run x = new Run(due);
        x.feed(Kind.DIGITS);
        x.flip(71);
        x.kind(0, 1, 2, false, false, 3);
        theoremHolds(x);
        x.kind(7, 9, 1, false, true, 2);
        x.flip(71);
        theoremHolds(x);
        x.clear();
        theoremHolds(x);
    }

    private static void nothingChanges(Due due) {
        due.sentence("holds changes nothing");
        Run x = new Run(due);
        x.feed(Kind.DIGITS);
        x.holds();
        x.due(x.count(0), 9);
        x.checks(0xCBF43926L);
    }

    private static SliceChecks toBreak() {
        SliceChecks x = new SliceChecks();
        for (int i = 0; i < BYTES_TO_BREAK; i++) {
            x.feed(i * i * 7 + i * 13 & 255, 1);
        }
        return x;
    }

    private static boolean waysAgree(SliceChecks x) {
        long whole = x.check(0);
        return x.check(1) == whole && x.check(2) == whole && x.check(3) == whole;
    }

    private static boolean cutFails(SliceChecks x, int cut) {
        int behind = BYTES_TO_BREAK - cut;
        return x.joined(x.part(0, cut), x.part(cut, BYTES_TO_BREAK), behind) != x.check(0);
    }

    /**
     * One number of the tables is made wrong, each in turn. Some are used for the parts of one cut
     * alone, so that each cut but that behind 0, whose parts are no others than the row, is once
     * all that fails; and where one that is none of these fails, holds must not see it.
     */
    private static void brokenTables(Due due) throws ReflectiveOperationException {
        due.sentence("behind 0, 7, .. up to 70 bytes: these cuts and no others");
        boolean[] decided = new boolean[BYTES_TO_BREAK];
        int numbers = ((long[]) field("slices").get(toBreak())).length;
        for (int i = 0; i < numbers; i++) {
            SliceChecks x = toBreak();
            ((long[]) field("slices").get(x))[i] ^= Long.MIN_VALUE;
            boolean agree = waysAgree(x);
            int failing = 0;
            for (int cut : CUTS) {
                failing += cutFails(x, cut) ? 1 : 0;
            }
            due.same("holds() with number " + i + " wrong", x.holds(), agree && failing == 0);
            if (agree && failing <= 1) {
                noteFailing(x, failing == 1 ? CUTS : NO_CUTS, decided);
            }
        }
        for (int cut = 7; cut <= 70; cut += 7) {
            due.same("the cut behind " + cut + " alone made holds() False", decided[cut], true);
        }
        for (int cut : NO_CUTS) {
            due.same("the cut behind " + cut + " did not", decided[cut], true);
        }
    }

    private static void noteFailing(SliceChecks x, int[] cuts, boolean[] decided) {
        for (int cut : cuts) {
            decided[cut] |= cutFails(x, cut);
        }
    }

    private static void brokenWays(Due due) throws ReflectiveOperationException {
        due.sentence("whether all four ways give one check");
        SliceChecks bits = toBreak();
        field("topPolynomial").setLong(bits, field("topPolynomial").getLong(bits) ^ Long.MIN_VALUE);
        due.same("ways 0 and 3 unlike 1 and 2", bits.check(0) != bits.check(1), true);
        due.same("holds() with ways 0 and 3 broken", bits.holds(), false);
        SliceChecks divided = toBreak();
        ((long[]) field("row").get(divided))[BYTES_TO_BREAK / 8] = Long.MIN_VALUE;
        due.same("way 3 unlike 0", divided.check(3) != divided.check(0), true);
        due.same("holds() with way 3 broken", divided.holds(), false);
    }

    private static Field field(String name) throws ReflectiveOperationException {
        Field field = SliceChecks.class.getDeclaredField(name);
        field.setAccessible(true);
        return field;
    }
}
