import java.util.zip.CRC32;

/** Promise 7. */
final class PartTest {
    private static final int LENGTH = 40;
    private static final int MIN = Integer.MIN_VALUE;
    private static final int MAX = Integer.MAX_VALUE;

    public static void main(String[] args) {
        Due due = new Due();
        everyPart(due);
        wholeRow(due);
        emptyParts(due);
        fromTooSmall(due);
        toTooLarge(due);
        fromBehindTo(due);
        noBytes(due);
        fullRow(due);
        nothingChanges(due);
        due.end();
    }

    private static Run fed(Due due) {
        Run x = new Run(due);
        for (int i = 0; i < LENGTH; i++) {
            x.feed(byteOf(i), 1);
        }
        return x;
    }

    private static int byteOf(int i) {
        return (i * 37 + 11) % 256;
    }

    private static void everyPart(Due due) {
        due.sentence("the check of bytes from .. to - 1");
        for (int from = 0; from <= LENGTH; from++) {
            Run x = fed(due);
            CRC32 library = new CRC32();
            for (int to = from; to <= LENGTH; to++) {
                x.due(x.part(from, to), library.getValue());
                library.update(byteOf(to));
            }
        }
    }

    private static void wholeRow(Due due) {
        due.sentence("bytes 0 .. count - 1 are the row");
        Run x = fed(due);
        x.checks(x.part(0, LENGTH));
        for (Kind kind : Kind.PUBLISHED) {
            Run digits = new Run(due, kind);
            digits.feed(Kind.DIGITS);
            digits.due(digits.part(0, 9), kind.check());
        }
    }

    /** A part of no bytes is a row of no bytes: its check is made of FIRST and LAST alone. */
    private static void emptyParts(Due due) {
        due.sentence("the check of bytes i .. i - 1: no bytes");
        Run x = digitsWithKindOf16(due);
        for (int i = 0; i <= 9; i++) {
            x.due(x.part(i, i), 0x12CB);
        }
        due.sentence("0: none such (no bytes, behind the row or before it)");
        for (int i : new int[] {-1, 10, 11, 16, 5000, MIN, MAX}) {
            x.due(x.part(i, i), 0);
        }
    }

    /** With this kind neither any part of the digits nor a row of no bytes has the check 0. */
    private static Run digitsWithKindOf16(Due due) {
        Run x = new Run(due);
        x.kind(16, 0x1021, 0x1234, false, false, 0x00FF);
        x.feed(Kind.DIGITS);
        x.checks(0xED14);
        return x;
    }

    private static void fromTooSmall(Due due) {
        due.sentence("0: none such (from before the first byte)");
        Run x = digitsWithKindOf16(due);
        for (int from : new int[] {-1, -7, -8, -9, MIN + 1, MIN}) {
            x.due(x.part(from, 9), 0);
            x.due(x.part(from, 1), 0);
            x.due(x.part(from, 0), 0);
            x.due(x.part(from, from), 0);
            x.due(x.part(from, MAX), 0);
        }
        x.due(x.part(0, 1), 0x20FE);
    }

    private static void toTooLarge(Due due) {
        due.sentence("0: none such (to behind the last byte)");
        Run x = digitsWithKindOf16(due);
        for (int to : new int[] {10, 11, 16, 17, 5000, 5001, MAX}) {
            x.due(x.part(0, to), 0);
            x.due(x.part(8, to), 0);
            x.due(x.part(9, to), 0);
            x.due(x.part(to, to), 0);
        }
        x.due(x.part(8, 9), 0xA1F6);
    }

    private static void fromBehindTo(Due due) {
        due.sentence("0: none such (from behind to)");
        Run x = digitsWithKindOf16(due);
        int[][] wrong = {{1, 0}, {5, 4}, {9, 8}, {9, 0}, {10, 9}, {0, -1}, {0, MIN}, {MAX, 9}, {MAX, MIN}};
        for (int[] part : wrong) {
            x.due(x.part(part[0], part[1]), 0);
        }
    }

    private static void noBytes(Due due) {
        due.sentence("parts of a row of no bytes");
        Run x = new Run(due);
        x.kind(16, 0x1021, 0x1234, false, false, 0x00FF);
        x.due(x.part(0, 0), 0x12CB);
        x.due(x.part(0, 1), 0);
        x.due(x.part(1, 1), 0);
        x.due(x.part(-1, 0), 0);
        x.due(x.part(1, 0), 0);
    }

    private static void fullRow(Due due) {
        due.sentence("parts of a full row");
        Run x = new Run(due);
        x.feed(0, 4999);
        x.feed(128, 1);
        x.due(x.part(0, 5000), 0x355D8D88L);
        x.due(x.part(4999, 5000), 0x3FBA6CADL);
        x.due(x.part(0, 1), 0xD202EF8DL);
        x.due(x.part(5000, 5000), 0);
        x.due(x.joined(x.part(0, 4999), x.part(4999, 5000), 1), 0x355D8D88L);
        x.kind(16, 0x1021, 0x1234, false, false, 0x00FF);
        x.due(x.part(5000, 5000), 0x12CB);
        x.due(x.part(0, 5001), 0);
        x.due(x.part(5000, 5001), 0);
        x.due(x.part(5001, 5001), 0);
    }

    private static void nothingChanges(Due due) {
        due.sentence("a part leaves the row as it is");
        Run x = digitsWithKindOf16(due);
        x.part(2, 7);
        x.part(9, 2);
        x.due(x.count(0), 9);
        x.checks(0xED14);
    }
}
