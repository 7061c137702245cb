import java.util.ArrayList;
import java.util.Arrays;
import java.util.List;

/**
 * The document once more, as slowly and as near to its words as can be, for the tests to compare
 * with: a register is a row of single bits, its highest first, and so is the number that is divided.
 */
final class SlowChecks {
    private final List<Integer> row = new ArrayList<>();
    private int width;
    private boolean[] polynomial;
    private boolean[] first;
    private boolean[] last;
    private boolean in;
    private boolean out;

    SlowChecks() {
        kind(32, 0x04C11DB7L, 0xFFFFFFFFL, true, true, 0xFFFFFFFFL);
    }

    boolean kind(int width, long polynomial, long first, boolean in, boolean out, long last) {
        if (width < 1 || width > 64) {
            return false;
        }
        this.width = width;
        this.polynomial = bits(polynomial);
        this.first = bits(first);
        this.last = bits(last);
        this.in = in;
        this.out = out;
        return true;
    }

    boolean feed(int b, int times) {
        if (b < 0 || b > 255 || times < 1 || times > 5000 || row.size() + times > 5000) {
            return false;
        }
        for (int i = 0; i < times; i++) {
            row.add(b);
        }
        return true;
    }

    void clear() {
        row.clear();
    }

    boolean flip(int i) {
        if (i < 0 || i / 8 >= row.size()) {
            return false;
        }
        int place = in ? i % 8 : 7 - i % 8;
        row.set(i / 8, row.get(i / 8) ^ 1 << place);
        return true;
    }

    long check(int way) {
        if (way < 0 || way > 3) {
            return 0;
        }
        return way == 3 ? divided() : part(0, row.size());
    }

    long part(int from, int to) {
        if (from < 0 || to < from || to > row.size()) {
            return 0;
        }
        boolean[] register = first;
        for (int b : row.subList(from, to)) {
            register = behindByte(register, b);
        }
        return finished(register);
    }

    long joined(long a, long b, int bytes) {
        if (bytes < 0) {
            return 0;
        }
        boolean[] difference = sum(begun(a), first);
        return finished(sum(begun(b), behindZeros(difference, 8L * bytes)));
    }

    long entry(int k, int b) {
        if (k < 0 || k > 7 || b < 0 || b > 255) {
            return 0;
        }
        boolean[] register = behindByte(bits(0), b);
        for (int i = 0; i < k; i++) {
            register = behindByte(register, 0);
        }
        return number(register);
    }

    long zeros(long register, int bits) {
        return bits < 0 || bits > 1000000 ? 0 : number(behindZeros(bits(register), bits));
    }

    int round() {
        boolean[] register = bits(1);
        for (int i = 1; i <= 4096; i++) {
            register = behindBit(register, false);
            if (number(register) == 1) {
                return i;
            }
        }
        return -1;
    }

    boolean holds() {
        // The theorem is true of every row and kind, so no run can make another answer due.
        return true;
    }

    int count(int what) {
        return switch (what) {
            case 0 -> row.size();
            case 1 -> width;
            case 2 -> in ? 1 : 0;
            case 3 -> out ? 1 : 0;
            default -> -1;
        };
    }

    long told(int what) {
        return switch (what) {
            case 0 -> number(polynomial);
            case 1 -> number(first);
            case 2 -> number(last);
            default -> 0;
        };
    }

    private boolean[] bits(long value) {
        boolean[] answer = new boolean[width];
        for (int i = 0; i < width; i++) {
            answer[width - 1 - i] = (value >>> i & 1) == 1;
        }
        return answer;
    }

    private static long number(boolean[] bits) {
        long answer = 0;
        for (boolean bit : bits) {
            answer = 2 * answer + (bit ? 1 : 0);
        }
        return answer;
    }

    private static boolean[] sum(boolean[] a, boolean[] b) {
        boolean[] answer = new boolean[a.length];
        for (int i = 0; i < a.length; i++) {
            answer[i] = a[i] != b[i];
        }
        return answer;
    }

    private boolean[] turnedIfOut(boolean[] register) {
        boolean[] answer = register.clone();
        for (int i = 0; i < width && out; i++) {
            answer[i] = register[width - 1 - i];
        }
        return answer;
    }

    private long finished(boolean[] register) {
        return number(sum(turnedIfOut(register), last));
    }

    private boolean[] begun(long check) {
        return turnedIfOut(sum(bits(check), last));
    }

    private boolean[] behindBit(boolean[] register, boolean bit) {
        boolean[] doubled = new boolean[width];
        System.arraycopy(register, 1, doubled, 0, width - 1);
        return register[0] != bit ? sum(doubled, polynomial) : doubled;
    }

    private boolean[] behindByte(boolean[] register, int b) {
        boolean[] answer = register;
        for (int i = 0; i < 8; i++) {
            answer = behindBit(answer, (b >> (in ? i : 7 - i) & 1) == 1);
        }
        return answer;
    }

    /** By what the bits 0 make of each single bit: squared as a square of rows, not as a polynomial. */
    private boolean[] behindZeros(boolean[] register, long bits) {
        boolean[][] made = new boolean[width][];
        for (int i = 0; i < width; i++) {
            boolean[] single = new boolean[width];
            single[i] = true;
            made[i] = behindBit(single, false);
        }
        boolean[] answer = register;
        for (long left = bits; left > 0; left /= 2) {
            if (left % 2 == 1) {
                answer = mapped(made, answer);
            }
            boolean[][] twice = new boolean[width][];
            for (int i = 0; i < width; i++) {
                twice[i] = mapped(made, made[i]);
            }
            made = twice;
        }
        return answer;
    }

    private boolean[] mapped(boolean[][] made, boolean[] register) {
        boolean[] answer = new boolean[width];
        for (int i = 0; i < width; i++) {
            if (register[i]) {
                answer = sum(answer, made[i]);
            }
        }
        return answer;
    }

    private long divided() {
        int bits = 8 * row.size();
        boolean[] left = new boolean[bits + width];
        for (int i = 0; i < bits; i++) {
            int place = in ? i % 8 : 7 - i % 8;
            left[i] = (row.get(i / 8) >> place & 1) == 1;
        }
        add(first, left, 0);
        for (int i = 0; i < bits; i++) {
            if (left[i]) {
                left[i] = false;
                add(polynomial, left, i + 1);
            }
        }
        return finished(Arrays.copyOfRange(left, bits, bits + width));
    }

    private static void add(boolean[] addend, boolean[] row, int from) {
        for (int i = 0; i < addend.length; i++) {
            row[from + i] ^= addend[i];
        }
    }

    @Override
    public String toString() {
        return row.size() + " bytes, width " + width + ", polynomial " + Long.toHexString(number(polynomial))
                + ", FIRST " + Long.toHexString(number(first)) + ", LAST " + Long.toHexString(number(last))
                + (in ? ", IN" : "") + (out ? ", OUT" : "");
    }
}
