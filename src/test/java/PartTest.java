import java.util.zip.CRC32;

/** Promise 7. */
final class PartTest {
    private static final int LENGTH = 40;

    public static void main(String[] args) {
        Due due = new Due();
        everyPart(due);
        emptyParts(due);
        noneSuch(due);
        due.end();
    }

    private static SliceChecks fedObject() {
        SliceChecks x = new SliceChecks();
        for (int i = 0; i < LENGTH; i++) {
            x.feed(byteOf(i), 1);
        }
        return x;
    }

    private static int byteOf(int i) {
        return (i * 37 + 11) % 256;
    }

    private static void everyPart(Due due) {
        SliceChecks x = fedObject();
        for (int from = 0; from <= LENGTH; from++) {
            CRC32 library = new CRC32();
            for (int to = from; to <= LENGTH; to++) {
                due.same("part(" + from + ", " + to + ")", x.part(from, to), library.getValue());
                library.update(byteOf(to));
            }
        }
        due.same("part of all", x.part(0, LENGTH), x.check(0));
    }

    /** A part of no bytes is a row of no bytes: its check is made of FIRST and LAST alone. */
    private static void emptyParts(Due due) {
        SliceChecks x = new SliceChecks();
        x.kind(16, 0x1021, 0x1234, false, false, 0x00FF);
        due.same("part(0, 0) of no bytes", x.part(0, 0), 0x12CB);
        due.same("part(1, 1) of no bytes", x.part(1, 1), 0);
        Kind.feed(x, Kind.DIGITS);
        due.same("part(0, 0)", x.part(0, 0), 0x12CB);
        due.same("part(4, 4)", x.part(4, 4), 0x12CB);
        due.same("part(9, 9)", x.part(9, 9), 0x12CB);
        due.same("part(10, 10)", x.part(10, 10), 0);
    }

    private static void noneSuch(Due due) {
        SliceChecks x = fedObject();
        // A kind in which a row of no bytes has another check than 0.
        x.kind(16, 0x1021, 0x1234, false, false, 0x00FF);
        int min = Integer.MIN_VALUE;
        int max = Integer.MAX_VALUE;
        int[][] wrong = {
            {-1, 1}, {-1, -1}, {5, 4}, {1, 0}, {0, LENGTH + 1}, {LENGTH, LENGTH + 1},
            {LENGTH + 1, LENGTH + 1}, {LENGTH + 1, LENGTH}, {min, 0}, {min, max}, {0, max},
            {max, max}, {min, min}, {0, min}, {max, min}, {-8, 8},
        };
        for (int[] part : wrong) {
            due.same("part(" + part[0] + ", " + part[1] + ")", x.part(part[0], part[1]), 0);
        }
        due.same("check(0) behind wrong parts", x.check(0), x.part(0, LENGTH));
    }
}
