import java.util.Random;
import java.util.zip.CRC32;
import java.util.zip.CRC32C;
import java.util.zip.Checksum;

/** Promise 6. */
final class CheckTest {
    public static void main(String[] args) {
        Due due = new Due();
        publishedChecks(due);
        longRowsAsTheLibrary(due);
        everyWidthAndShortRows(due);
        noOtherWay(due);
        due.end();
    }

    private static void publishedChecks(Due due) {
        for (Kind kind : Kind.PUBLISHED) {
            SliceChecks x = new SliceChecks();
            kind.giveTo(x);
            Kind.feed(x, Kind.DIGITS);
            for (int way = 0; way < 4; way++) {
                due.same("check(" + way + ") with " + kind, x.check(way), kind.check());
            }
        }
    }

    private static void longRowsAsTheLibrary(Due due) {
        int[] lengths = {0, 1, 7, 8, 9, 15, 16, 17, 63, 64, 65, 1000, 4999, 5000};
        for (int length : lengths) {
            asTheLibrary(due, length, 0x04C11DB7L, new CRC32());
            asTheLibrary(due, length, 0x1EDC6F41L, new CRC32C());
        }
    }

    private static void asTheLibrary(Due due, int length, long polynomial, Checksum library) {
        Random source = new Random(length);
        SliceChecks x = new SliceChecks();
        x.kind(32, polynomial, -1, true, true, -1);
        for (int i = 0; i < length; i++) {
            int b = source.nextInt(256);
            x.feed(b, 1);
            library.update(b);
        }
        for (int way = 0; way < 4; way++) {
            due.same("check(" + way + ") of " + length + " bytes", x.check(way), library.getValue());
        }
    }

    /** Rows of 0 to 20 bytes: shorter than the width, and around one and two times eight bytes. */
    private static void everyWidthAndShortRows(Due due) {
        Random source = new Random(6);
        for (int width = 1; width <= 64; width++) {
            SliceChecks x = new SliceChecks();
            SlowChecks slow = new SlowChecks();
            for (int length = 0; length <= 20; length++) {
                Kind kind = Kind.any(width, source);
                kind.giveTo(x);
                kind.giveTo(slow);
                for (int way = 0; way < 4; way++) {
                    due.same("check(" + way + ") of " + length + " bytes with " + kind,
                            x.check(way), slow.check(way));
                }
                int b = source.nextInt(256);
                x.feed(b, 1);
                slow.feed(b, 1);
            }
        }
    }

    private static void noOtherWay(Due due) {
        SliceChecks x = new SliceChecks();
        Kind.feed(x, Kind.DIGITS);
        for (int way : new int[] {-1, 4, 5, Integer.MAX_VALUE, Integer.MIN_VALUE}) {
            due.same("check(" + way + ")", x.check(way), 0);
        }
        x.kind(8, 7, 0x55, false, false, 0x55);
        due.same("check(4)", x.check(4), 0);
        due.same("check(-1)", x.check(-1), 0);
    }
}
