import java.util.Random;

/** Promise 9. */
final class EntryTest {
    private static final int MIN = Integer.MIN_VALUE;
    private static final int MAX = Integer.MAX_VALUE;

    public static void main(String[] args) {
        Due due = new Due();
        knownEntries(due);
        ofARegister(due);
        everyEntry(due);
        leastAndGreatest(due);
        byteTooSmall(due);
        byteTooLarge(due);
        fewerThanNoBytesBehind(due);
        moreThanSevenBehind(due);
        bothWrong(due);
        due.end();
    }

    private static void knownEntries(Due due) {
        due.sentence("what a byte and k bytes 0 behind it make of a register 0");
        Run x = new Run(due);
        x.due(x.entry(0, 128), 0x04C11DB7L);
        x.due(x.entry(0, 1), 0x690CE0EEL);
        x.kind(8, 7, 99, false, false, 77);
        x.due(x.entry(0, 1), 7);
        x.due(x.entry(0, 255), 243);
        x.due(x.entry(7, 128), 191);
    }

    /** With OUT a check is turned round, but a register never is; nor do FIRST and LAST count. */
    private static void ofARegister(Due due) {
        due.sentence("a register 0: FIRST, OUT and LAST do not count, but IN does");
        Run x = new Run(due);
        x.kind(16, 0x8005, 0, true, true, 0);
        x.due(x.entry(0, 1), 33539);
        x.due(x.entry(7, 128), 4102);
        x.kind(16, 0x8005, -1, true, false, -1);
        x.due(x.entry(0, 1), 33539);
        x.due(x.entry(7, 128), 4102);
        x.kind(16, 0x8005, -1, false, false, -1);
        x.due(x.entry(0, 128), 33539);
        x.due(x.entry(7, 1), 4102);
    }

    private static void everyEntry(Due due) {
        due.sentence("a byte (0 .. 255) and k bytes 0 behind it (0 .. 7)");
        Random source = new Random(9);
        for (int width : new int[] {1, 2, 3, 7, 8, 9, 16, 31, 32, 33, 63, 64}) {
            Kind kind = Kind.any(width, source);
            for (int k = 0; k < 8; k++) {
                Run x = new Run(due, kind);
                for (int b = 0; b < 256; b++) {
                    x.entry(k, b);
                }
            }
        }
    }

    private static void leastAndGreatest(Due due) {
        due.sentence("0 .. 255 and 0 .. 7: the least and the greatest of both");
        Run x = new Run(due);
        x.due(x.entry(0, 0), 0);
        x.due(x.entry(0, 255), 0xB1F740B4L);
        x.due(x.entry(7, 0), 0);
        x.due(x.entry(7, 255), 0x6760D264L);
    }

    private static void noEntries(Due due, int[][] wrong) {
        for (int[] entry : wrong) {
            Run x = new Run(due);
            x.due(x.entry(entry[0], entry[1]), 0);
            x.kind(64, 0x1B, -1, false, false, -1);
            x.due(x.entry(entry[0], entry[1]), 0);
            x.due(x.entry(0, 1), 0x1B);
        }
    }

    /** Each of these would be an entry of another k, were it looked up without a look at it. */
    private static void byteTooSmall(Due due) {
        due.sentence("0: none such (a byte too small)");
        noEntries(due, new int[][] {{0, -1}, {1, -1}, {7, -1}, {7, -255}, {7, -256}, {0, MIN}, {7, MIN}});
    }

    private static void byteTooLarge(Due due) {
        due.sentence("0: none such (a byte too large)");
        noEntries(due, new int[][] {{0, 256}, {0, 257}, {6, 511}, {7, 256}, {0, MAX}, {7, MAX}});
    }

    private static void fewerThanNoBytesBehind(Due due) {
        due.sentence("0: none such (k too small)");
        noEntries(due, new int[][] {{-1, 0}, {-1, 1}, {-1, 255}, {-8, 1}, {-(1 << 24), 1}, {MIN, 1}});
    }

    private static void moreThanSevenBehind(Due due) {
        due.sentence("0: none such (k too large)");
        noEntries(due, new int[][] {{8, 0}, {8, 1}, {8, 255}, {9, 1}, {1 << 24, 1}, {MAX, 1}});
    }

    private static void bothWrong(Due due) {
        due.sentence("0: none such (neither the byte nor k)");
        noEntries(due, new int[][] {{-1, 256}, {-1, 257}, {8, -1}, {8, -255}, {MIN, MIN}, {MAX, MAX}});
    }
}
