import java.util.Random;

/** Promise 9. */
final class EntryTest {
    public static void main(String[] args) {
        Due due = new Due();
        knownEntries(due);
        everyEntry(due);
        noneSuch(due);
        due.end();
    }

    private static void knownEntries(Due due) {
        SliceChecks x = new SliceChecks();
        x.kind(8, 7, 99, false, false, 77);
        due.same("entry(0, 0)", x.entry(0, 0), 0);
        due.same("entry(0, 1)", x.entry(0, 1), 7);
        due.same("entry(0, 255)", x.entry(0, 255), 243);
        due.same("entry(7, 128)", x.entry(7, 128), 191);
        // With OUT a check is turned round, but a register never is.
        x.kind(16, 0x8005, 0, true, true, 0);
        due.same("entry(0, 1)", x.entry(0, 1), 33539);
        due.same("entry(7, 128)", x.entry(7, 128), 4102);
        x.kind(16, 0x8005, 0, true, false, 0);
        due.same("entry(0, 1)", x.entry(0, 1), 33539);
    }

    private static void everyEntry(Due due) {
        Random source = new Random(9);
        for (int width : new int[] {1, 2, 3, 7, 8, 9, 16, 31, 32, 33, 63, 64}) {
            SliceChecks x = new SliceChecks();
            SlowChecks slow = new SlowChecks();
            Kind kind = Kind.any(width, source);
            kind.giveTo(x);
            kind.giveTo(slow);
            for (int k = 0; k < 8; k++) {
                for (int b = 0; b < 256; b++) {
                    due.same("entry(" + k + ", " + b + ") with " + kind, x.entry(k, b), slow.entry(k, b));
                }
            }
        }
    }

    private static void noneSuch(Due due) {
        SliceChecks x = new SliceChecks();
        int min = Integer.MIN_VALUE;
        int max = Integer.MAX_VALUE;
        int[][] wrong = {
            {-1, 1}, {8, 1}, {0, -1}, {0, 256}, {7, 256}, {1, -1}, {min, 1}, {max, 1}, {0, min},
            {0, max}, {-1, 256}, {-1, 257}, {8, -1}, {1 << 24, 1},
        };
        for (int[] entry : wrong) {
            due.same("entry(" + entry[0] + ", " + entry[1] + ")", x.entry(entry[0], entry[1]), 0);
        }
    }
}
