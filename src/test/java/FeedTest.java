import java.util.zip.CRC32;

/** Promise 3. */
final class FeedTest {
    private static final int MIN = Integer.MIN_VALUE;
    private static final int MAX = Integer.MAX_VALUE;
    private static final int[][] NONE_SUCH = {
        {-1, 1}, {256, 1}, {MIN, 1}, {MAX, 1}, {65, 0}, {65, -1}, {65, 5001}, {65, MIN}, {65, MAX},
        {0, 0}, {255, 5001}, {256, 5001}, {-1, 0},
    };

    public static void main(String[] args) {
        Due due = new Due();
        everyByteComesBehind(due);
        soOften(due);
        noneSuchChangesNothing(due);
        fullRow(due);
        due.end();
    }

    private static void everyByteComesBehind(Due due) {
        SliceChecks x = new SliceChecks();
        CRC32 library = new CRC32();
        for (int b = 0; b < 256; b++) {
            due.same("feed(" + b + ", 1)", x.feed(b, 1), true);
            library.update(b);
            due.same("check(2) behind " + b, x.check(2), library.getValue());
        }
        due.same("count(0)", x.count(0), 256);
    }

    private static void soOften(Due due) {
        SliceChecks x = new SliceChecks();
        CRC32 library = new CRC32();
        int all = 0;
        for (int times = 1; times <= 40; times++) {
            due.same("feed(" + (200 + times) + ", " + times + ")", x.feed(200 + times, times), true);
            for (int i = 0; i < times; i++) {
                library.update(200 + times);
            }
            all += times;
            due.same("count(0)", x.count(0), all);
            due.same("check(1)", x.check(1), library.getValue());
        }
    }

    private static void noneSuchChangesNothing(Due due) {
        SliceChecks x = new SliceChecks();
        Kind.feed(x, Kind.DIGITS);
        for (int[] wrong : NONE_SUCH) {
            String call = "feed(" + wrong[0] + ", " + wrong[1] + ")";
            due.same(call, x.feed(wrong[0], wrong[1]), false);
            due.same("count(0) behind " + call, x.count(0), 9);
            due.same("check(0) behind " + call, x.check(0), 0xCBF43926L);
        }
    }

    private static void fullRow(Due due) {
        SliceChecks x = new SliceChecks();
        due.same("feed(7, 5000)", x.feed(7, 5000), true);
        due.same("feed(7, 1) too many", x.feed(7, 1), false);
        due.same("count(0)", x.count(0), 5000);
        x.clear();
        due.same("feed(7, 1)", x.feed(7, 1), true);
        due.same("feed(7, 5000) too many", x.feed(7, 5000), false);
        due.same("count(0)", x.count(0), 1);
        due.same("feed(8, 4998)", x.feed(8, 4998), true);
        due.same("feed(9, 2) too many", x.feed(9, 2), false);
        due.same("count(0)", x.count(0), 4999);
        due.same("feed(9, 1)", x.feed(9, 1), true);
        due.same("feed(9, " + MAX + ") too many", x.feed(9, MAX), false);
        due.same("count(0)", x.count(0), 5000);
        CRC32 library = new CRC32();
        library.update(7);
        for (int i = 0; i < 4998; i++) {
            library.update(8);
        }
        library.update(9);
        for (int way = 0; way < 4; way++) {
            due.same("check(" + way + ") of a full row", x.check(way), library.getValue());
        }
    }
}
