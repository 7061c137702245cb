/** Promise 4. */
final class ClearTest {
    public static void main(String[] args) {
        Due due = new Due();
        emptyRow(due);
        someBytes(due);
        fullRow(due);
        oldBitsAreGone(due);
        kindStays(due);
        due.end();
    }

    private static void none(Run x, long check) {
        x.due(x.count(0), 0);
        x.due(x.flip(0), false);
        x.due(x.part(0, 1), 0);
        x.due(x.part(0, 0), check);
        x.checks(check);
        x.due(x.holds(), true);
    }

    private static void emptyRow(Due due) {
        due.sentence("bytes are none (there were none)");
        Run x = new Run(due);
        x.clear();
        none(x, 0);
        x.clear();
        x.clear();
        none(x, 0);
    }

    private static void someBytes(Due due) {
        due.sentence("bytes are none");
        Run x = new Run(due);
        x.feed(Kind.DIGITS);
        x.clear();
        none(x, 0);
        x.feed(Kind.DIGITS);
        x.due(x.count(0), 9);
        x.checks(0xCBF43926L);
    }

    private static void fullRow(Due due) {
        due.sentence("bytes are none (there were 5,000)");
        Run x = new Run(due);
        x.feed(255, 5000);
        x.check(3);
        x.due(x.feed(0, 1), false);
        x.clear();
        none(x, 0);
        x.due(x.feed(65, 5000), true);
        x.due(x.feed(65, 1), false);
        x.checks(0x131A7BBEL);
    }

    /** Bytes 0 and shorter rows behind a clear would show what stayed of bytes 255. */
    private static void oldBitsAreGone(Due due) {
        due.sentence("bytes are none (nothing of them comes back)");
        for (int length = 1; length <= 20; length++) {
            Run x = new Run(due);
            x.feed(255, 40);
            x.check(3);
            x.clear();
            x.feed(0, length);
            x.checks(x.part(0, length));
            x.due(x.part(length, length + 1), 0);
        }
        Run x = new Run(due);
        x.feed(255, 5000);
        x.clear();
        x.feed(0, 5000);
        x.checks(0xD8E50EA8L);
    }

    private static void kindStays(Due due) {
        due.sentence("clear: the kind stays");
        Run x = new Run(due);
        x.kind(16, 0x1021, 0xFFFF, false, true, 0x00FF);
        x.feed(1, 1);
        x.clear();
        x.due(x.count(1), 16);
        x.due(x.count(2), 0);
        x.due(x.count(3), 1);
        x.due(x.told(0), 0x1021);
        x.due(x.told(1), 0xFFFF);
        x.due(x.told(2), 0x00FF);
        none(x, 0xFF00);
    }
}
