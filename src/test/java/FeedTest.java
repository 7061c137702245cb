import java.util.zip.CRC32;

/** Promise 3. */
final class FeedTest {
    private static final int MIN = Integer.MIN_VALUE;
    private static final int MAX = Integer.MAX_VALUE;

    public static void main(String[] args) {
        Due due = new Due();
        comesBehindTheOthers(due);
        everyByte(due);
        soOften(due);
        onceAndFiveThousandTimes(due);
        byteTooSmall(due);
        byteTooLarge(due);
        timesTooFew(due);
        timesTooMany(due);
        bothWrong(due);
        moreThanFiveThousandInAll(due);
        refusedByAFullRow(due);
        takenBehindARefusedOne(due);
        due.end();
    }

    private static void comesBehindTheOthers(Due due) {
        due.sentence("a byte comes behind the others");
        Run x = new Run(due);
        CRC32 library = new CRC32();
        for (int i = 0; i < 100; i++) {
            int b = i * 151 % 256;
            x.due(x.feed(b, 1), true);
            library.update(b);
            x.due(x.count(0), i + 1);
            x.due(x.check(2), library.getValue());
        }
    }

    private static void everyByte(Due due) {
        due.sentence("a byte: 0 .. 255");
        Run x = new Run(due);
        CRC32 library = new CRC32();
        for (int b = 0; b < 256; b++) {
            x.due(x.feed(b, 1), true);
            library.update(b);
        }
        x.due(x.count(0), 256);
        x.checks(library.getValue());
        Run least = new Run(due);
        least.due(least.feed(0, 1), true);
        least.checks(0xD202EF8DL);
        Run greatest = new Run(due);
        greatest.due(greatest.feed(255, 1), true);
        greatest.checks(0xFF000000L);
    }

    private static void soOften(Due due) {
        due.sentence("so often");
        Run x = new Run(due);
        CRC32 library = new CRC32();
        int all = 0;
        for (int times = 1; times <= 40; times++) {
            x.due(x.feed(200 + times, times), true);
            for (int i = 0; i < times; i++) {
                library.update(200 + times);
            }
            all += times;
            x.due(x.count(0), all);
            x.due(x.check(1), library.getValue());
        }
    }

    private static void onceAndFiveThousandTimes(Due due) {
        due.sentence("so often (1 .. 5,000)");
        Run once = new Run(due);
        once.due(once.feed(65, 1), true);
        once.due(once.count(0), 1);
        once.checks(0xD3D99E8BL);
        Run most = new Run(due);
        most.due(most.feed(65, 5000), true);
        most.due(most.count(0), 5000);
        most.checks(0x131A7BBEL);
    }

    private static void refused(Due due, int b, int times) {
        Run empty = new Run(due);
        empty.due(empty.feed(b, times), false);
        empty.due(empty.count(0), 0);
        empty.due(empty.flip(0), false);
        Run x = new Run(due);
        x.feed(Kind.DIGITS);
        x.due(x.feed(b, times), false);
        x.due(x.count(0), 9);
        x.due(x.flip(72), false);
        x.checks(0xCBF43926L);
    }

    private static void byteTooSmall(Due due) {
        due.sentence("0 .. 255. False: none such (a byte too small)");
        for (int b : new int[] {-1, -128, -256, MIN}) {
            refused(due, b, 1);
            refused(due, b, 5000);
        }
    }

    private static void byteTooLarge(Due due) {
        due.sentence("0 .. 255. False: none such (a byte too large)");
        for (int b : new int[] {256, 257, 512, MAX}) {
            refused(due, b, 1);
            refused(due, b, 5000);
        }
    }

    private static void timesTooFew(Due due) {
        due.sentence("1 .. 5,000. False: none such (too few times)");
        for (int times : new int[] {0, -1, -5000, MIN}) {
            refused(due, 0, times);
            refused(due, 255, times);
        }
    }

    private static void timesTooMany(Due due) {
        due.sentence("1 .. 5,000. False: none such (too many times)");
        for (int times : new int[] {5001, 5008, 1 << 16, MAX - 8, MAX}) {
            refused(due, 0, times);
            refused(due, 255, times);
        }
    }

    private static void bothWrong(Due due) {
        due.sentence("False: none such (neither the byte nor the times)");
        refused(due, -1, 0);
        refused(due, -1, 5001);
        refused(due, 256, 0);
        refused(due, 256, MAX);
    }

    /** Not even those that would fit are fed. */
    private static void moreThanFiveThousandInAll(Due due) {
        due.sentence("False: more than 5,000 in all");
        Run x = new Run(due);
        x.due(x.feed(7, 1), true);
        x.due(x.feed(8, 5000), false);
        x.due(x.count(0), 1);
        x.due(x.feed(8, 4998), true);
        x.due(x.feed(9, 2), false);
        x.due(x.count(0), 4999);
        x.due(x.feed(9, 1), true);
        x.due(x.count(0), 5000);
        CRC32 library = new CRC32();
        library.update(7);
        for (int i = 0; i < 4998; i++) {
            library.update(8);
        }
        library.update(9);
        x.checks(library.getValue());
    }

    private static void refusedByAFullRow(Due due) {
        due.sentence("False: more than 5,000 in all (a full row)");
        Run x = new Run(due);
        x.feed(65, 5000);
        for (int times : new int[] {1, 2, 8, 4999, 5000, 5001, MAX}) {
            x.due(x.feed(0, times), false);
            x.due(x.feed(255, times), false);
        }
        x.due(x.count(0), 5000);
        x.checks(0x131A7BBEL);
    }

    private static void takenBehindARefusedOne(Due due) {
        due.sentence("a feed behind a refused one");
        Run x = new Run(due);
        x.due(x.feed(255, 5001), false);
        x.due(x.feed(256, 1), false);
        x.feed(Kind.DIGITS);
        x.checks(0xCBF43926L);
    }
}
