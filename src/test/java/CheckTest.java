import java.util.Random;
import java.util.zip.CRC32;
import java.util.zip.CRC32C;
import java.util.zip.Checksum;

/** Promise 6. */
final class CheckTest {
    public static void main(String[] args) {
        Due due = new Due();
        publishedChecks(due);
        asTheLibraries(due);
        noBytes(due);
        lessThanWidthBits(due);
        justWidthBits(due);
        widthsUnderAByte(due);
        aroundEightBytes(due);
        fullRow(due);
        wayTooSmall(due);
        wayTooLarge(due);
        nothingChanges(due);
        due.end();
    }

    private static void publishedChecks(Due due) {
        due.sentence("the check of the row: ways 0 to 3");
        for (Kind kind : Kind.PUBLISHED) {
            Run x = new Run(due, kind);
            x.feed(Kind.DIGITS);
            x.checks(kind.check());
        }
    }

    private static void asTheLibraries(Due due) {
        due.sentence("the check of the row: long rows");
        for (int length : new int[] {0, 1, 63, 64, 65, 1000, 4999, 5000}) {
            asTheLibrary(due, length, 0x04C11DB7L, new CRC32());
            asTheLibrary(due, length, 0x1EDC6F41L, new CRC32C());
        }
    }

    private static void asTheLibrary(Due due, int length, long polynomial, Checksum library) {
        Random source = new Random(length);
        Run x = new Run(due);
        x.kind(32, polynomial, -1, true, true, -1);
        int left = length;
        while (left > 0) {
            int times = Math.min(left, 1 + length / 300);
            int b = source.nextInt(256);
            x.feed(b, times);
            for (int i = 0; i < times; i++) {
                library.update(b);
            }
            left -= times;
        }
        x.checks(library.getValue());
    }

    private static void noBytes(Due due) {
        due.sentence("the check of no bytes: FIRST, with OUT turned round, plus LAST");
        Run x = new Run(due);
        x.kind(16, 0x1021, 0x1234, false, false, 0x00FF);
        x.checks(0x12CB);
        x.kind(16, 0x1021, 0x1234, true, true, 0x00FF);
        x.checks(0x2CB7);
        x.kind(1, 1, 1, true, true, 0);
        x.checks(1);
        x.kind(64, 1, 1, true, true, 0);
        x.checks(Long.MIN_VALUE);
    }

    /** All rows that are shorter than the register, byte after byte, of every width from 1 on. */
    private static void lessThanWidthBits(Due due) {
        due.sentence("with less than w bits in the row and w 0s, too");
        Random source = new Random(6);
        for (int width = 1; width <= 64; width++) {
            for (int bytes = 0; 8 * bytes < width; bytes++) {
                Run x = new Run(due, Kind.any(width, source));
                feedAny(x, bytes, source);
                x.checks(x.part(0, bytes));
            }
        }
        long[] known = {
            0, 0x2A2F0E859495CAEDL, 0x041D6D7E27F25958L, 0x30232844071CC561L, 0xCE4E879366B8C328L,
            0x5DA746FFA5045CE9L, 0x046AE5365DC3C8CEL, 0x70509F3661923DA0L,
        };
        for (int bytes = 0; bytes < known.length; bytes++) {
            Run x = new Run(due);
            x.kind(64, 0x42F0E1EBA9EA3693L, -1, true, true, -1);
            x.feed(Kind.DIGITS.substring(0, bytes));
            x.checks(known[bytes]);
        }
    }

    private static void justWidthBits(Due due) {
        due.sentence("just w bits in the row, and a byte more");
        Random source = new Random(66);
        for (int width = 8; width <= 64; width += 8) {
            Run x = new Run(due, Kind.any(width, source));
            feedAny(x, width / 8, source);
            x.checks(x.part(0, width / 8));
            feedAny(x, 1, source);
            x.checks(x.part(0, width / 8 + 1));
        }
        Run x = new Run(due);
        x.kind(64, 0x42F0E1EBA9EA3693L, -1, true, true, -1);
        x.feed("12345678");
        x.checks(0x5C8B80482BAC7809L);
        Run odd = new Run(due);
        odd.kind(9, 0x119, 0x1FF, false, false, 0x0AA);
        odd.feed("1");
        odd.checks(0x0AD);
        odd.feed("2");
        odd.checks(0x08A);
    }

    private static void widthsUnderAByte(Due due) {
        due.sentence("byte by byte and eight bytes at once with less than eight bits");
        Random source = new Random(666);
        for (int width = 1; width < 8; width++) {
            for (int bytes = 0; bytes <= 18; bytes++) {
                Run x = new Run(due, Kind.any(width, source));
                feedAny(x, bytes, source);
                x.checks(x.part(0, bytes));
            }
        }
    }

    private static void aroundEightBytes(Due due) {
        due.sentence("eight bytes at once: rows around 8, 16 and 24 bytes");
        Random source = new Random(6666);
        for (int width = 8; width <= 64; width++) {
            for (int bytes : new int[] {7, 8, 9, 15, 16, 17, 23, 24, 25}) {
                Run x = new Run(due, Kind.any(width, source));
                feedAny(x, bytes, source);
                x.checks(x.part(0, bytes));
            }
        }
    }

    private static void fullRow(Due due) {
        due.sentence("all ways of a full row, of every width");
        Random source = new Random(5000);
        for (int width = 1; width <= 64; width++) {
            Run x = new Run(due, Kind.any(width, source));
            x.feed(source.nextInt(256), 4990);
            feedAny(x, 10, source);
            x.checks(x.part(0, 5000));
        }
    }

    private static void feedAny(Run x, int bytes, Random source) {
        for (int i = 0; i < bytes; i++) {
            x.feed(source.nextInt(256), 1);
        }
    }

    private static void noWay(Due due, int way) {
        Run x = new Run(due);
        x.feed(Kind.DIGITS);
        x.due(x.check(way), 0);
        x.kind(16, 0x1021, 0x1234, false, false, 0x00FF);
        x.due(x.check(way), 0);
        x.clear();
        x.due(x.check(way), 0);
        x.checks(0x12CB);
    }

    private static void wayTooSmall(Due due) {
        due.sentence("0 for another way (too small)");
        for (int way : new int[] {-1, -2, -4, Integer.MIN_VALUE}) {
            noWay(due, way);
        }
    }

    private static void wayTooLarge(Due due) {
        due.sentence("0 for another way (too large)");
        for (int way : new int[] {4, 5, 8, 256, Integer.MAX_VALUE}) {
            noWay(due, way);
        }
    }

    /** A row that was divided in place would show at the second time. */
    private static void nothingChanges(Due due) {
        due.sentence("a check leaves the row as it is");
        Run x = new Run(due);
        x.feed(Kind.DIGITS);
        for (int i = 0; i < 3; i++) {
            x.checks(0xCBF43926L);
            x.due(x.check(3), 0xCBF43926L);
        }
        x.due(x.count(0), 9);
    }
}
