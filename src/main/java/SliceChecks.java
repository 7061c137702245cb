import java.util.Arrays;

/**
 * Checks of rows of bytes as remainders of polynomials, of any width up to 64 bits.
 *
 * <p>Inside, a register stands at the TOP of a long: its highest bit is bit 63 and the bits under
 * its width are 0. So what is doubled out falls away by itself, and one set of tables serves every
 * width, those under eight bits too.
 */
public final class SliceChecks {
    public static final int BAD = -1;

    private static final int WORD_BITS = 64;
    private static final int WORD_BYTES = 8;
    private static final int BYTE_BITS = 8;
    private static final int BYTE_VALUES = 256;
    private static final int MOST_BYTES = 5000;
    private static final int ROW_WORDS = MOST_BYTES / WORD_BYTES;
    /** The longest row fills its words to the end, so one word more holds the up to 64 bits 0. */
    private static final int DIVIDEND_WORDS = ROW_WORDS + 1;
    private static final int MOST_ZEROS = 1_000_000;
    private static final int LONGEST_ROUND = 4096;
    /** Eight bits for each of 2,147,483,647 bytes are less than 2 to the 34th. */
    private static final int ZERO_COUNT_BITS = 34;
    private static final int LAST_CUT = 70;
    private static final int CUT_STEP = 7;

    /**
     * The row as its bits come, the first one highest in word 0: with IN, each byte stands turned
     * round here. All bits behind the row are 0.
     */
    private final long[] row = new long[ROW_WORDS];
    /** Where way 3 divides; kept so that no call makes a row. */
    private final long[] dividend = new long[DIVIDEND_WORDS];
    /** At 256 k + b: what byte b, highest bit first, and k bytes 0 make of a register 0. */
    private final long[] slices = new long[WORD_BYTES * BYTE_VALUES];

    private int bytes;
    private int width;
    private long polynomial;
    /** The same, as registers stand: every bit that comes may need it. */
    private long topPolynomial;
    private long first;
    private long last;
    private boolean in;
    private boolean out;

    public SliceChecks() {
        kind(32, 0x04C11DB7L, -1L, true, true, -1L);
    }

    public boolean kind(int width, long polynomial, long first, boolean in, boolean out, long last) {
        if (width < 1 || width > WORD_BITS) {
            return false;
        }
        if (this.in != in) {
            turnBytesOfRow();
        }
        this.width = width;
        this.polynomial = lowerBits(polynomial);
        this.topPolynomial = atTop(polynomial);
        this.first = lowerBits(first);
        this.in = in;
        this.out = out;
        this.last = lowerBits(last);
        fillSlices();
        return true;
    }

    public boolean feed(int b, int times) {
        if (!isByte(b) || times < 1 || times > MOST_BYTES - bytes) {
            return false;
        }
        long coming = asItComes(b);
        for (int i = 0; i < times; i++) {
            row[bytes / WORD_BYTES] |= coming << shiftOfByte(bytes);
            bytes++;
        }
        return true;
    }

    public void clear() {
        Arrays.fill(row, 0L);
        bytes = 0;
    }

    public boolean flip(int i) {
        if (i < 0 || i >= bitsOfRow()) {
            return false;
        }
        row[i / WORD_BITS] ^= 1L << (WORD_BITS - 1 - i % WORD_BITS);
        return true;
    }

    public long check(int way) {
        switch (way) {
            case 0:
                return checkOf(bitByBit());
            case 1:
                return checkOf(byteByByte(atTop(first), 0, bytes));
            case 2:
                return checkOf(eightAtOnce(0, bytes));
            case 3:
                return checkOf(byDividing());
            default:
                return 0L;
        }
    }

    public long part(int from, int to) {
        if (from < 0 || from > to || to > bytes) {
            return 0L;
        }
        return checkOf(eightAtOnce(from, to));
    }

    public long joined(long a, long b, int bytes) {
        if (bytes < 0) {
            return 0L;
        }
        // The second row was begun with FIRST, not with what the first row left: the difference
        // of the two goes through the second row as through bits 0, for a bit is linear.
        long difference = registerOf(a) ^ atTop(first);
        return checkOf(registerOf(b) ^ behindZeros(difference, (long) bytes * BYTE_BITS));
    }

    public long entry(int k, int b) {
        if (k < 0 || k >= WORD_BYTES || !isByte(b)) {
            return 0L;
        }
        return fromTop(slices[k * BYTE_VALUES + (int) asItComes(b)]);
    }

    public long zeros(long register, int bits) {
        if (bits < 0 || bits > MOST_ZEROS) {
            return 0L;
        }
        return fromTop(behindZeros(atTop(register), bits));
    }

    public int round() {
        long one = atTop(1L);
        long register = one;
        for (int bits = 1; bits <= LONGEST_ROUND; bits++) {
            register = behindBit(register, 0);
            if (register == one) {
                return bits;
            }
        }
        return BAD;
    }

    public boolean holds() {
        long whole = check(0);
        if (check(1) != whole || check(2) != whole || check(3) != whole) {
            return false;
        }
        for (int cut = 0; cut <= LAST_CUT && cut <= bytes; cut += CUT_STEP) {
            if (joined(part(0, cut), part(cut, bytes), bytes - cut) != whole) {
                return false;
            }
        }
        return true;
    }

    public int count(int what) {
        switch (what) {
            case 0:
                return bytes;
            case 1:
                return width;
            case 2:
                return in ? 1 : 0;
            case 3:
                return out ? 1 : 0;
            default:
                return BAD;
        }
    }

    public long told(int what) {
        switch (what) {
            case 0:
                return polynomial;
            case 1:
                return first;
            case 2:
                return last;
            default:
                return 0L;
        }
    }

    // Registers and checks

    private long atTop(long value) {
        return value << (WORD_BITS - width);
    }

    private long fromTop(long register) {
        return register >>> (WORD_BITS - width);
    }

    private long lowerBits(long value) {
        return fromTop(atTop(value));
    }

    private long checkOf(long register) {
        long value = fromTop(register);
        return (out ? turned(value, width) : value) ^ last;
    }

    private long registerOf(long check) {
        long value = check ^ last;
        return atTop(out ? turned(value, width) : value);
    }

    private static long turned(long value, int bits) {
        long answer = 0L;
        for (int i = 0; i < bits; i++) {
            answer = answer << 1 | value >>> i & 1L;
        }
        return answer;
    }

    private long behindBit(long register, int bit) {
        long doubled = register << 1;
        return register >>> (WORD_BITS - 1) != bit ? doubled ^ topPolynomial : doubled;
    }

    private long behindByte(long register, int b) {
        long answer = register;
        for (int i = BYTE_BITS - 1; i >= 0; i--) {
            answer = behindBit(answer, b >>> i & 1);
        }
        return answer;
    }

    private long behindByteByTable(long register, int b) {
        return register << BYTE_BITS ^ slices[(int) (register >>> (WORD_BITS - BYTE_BITS)) ^ b];
    }

    private long behindWordByTables(long register, long word) {
        long left = register ^ word;
        long answer = 0L;
        for (int k = 0; k < WORD_BYTES; k++) {
            answer ^= slices[k * BYTE_VALUES + (int) (left & (BYTE_VALUES - 1))];
            left >>>= BYTE_BITS;
        }
        return answer;
    }

    private void fillSlices() {
        for (int b = 0; b < BYTE_VALUES; b++) {
            slices[b] = behindByte(0L, b);
        }
        for (int i = BYTE_VALUES; i < slices.length; i++) {
            slices[i] = behindByteByTable(slices[i - BYTE_VALUES], 0);
        }
    }

    /** So many bits 0 multiply by x to their number, which is put together from squares of x. */
    private long behindZeros(long register, long bits) {
        long answer = register;
        long power = behindBit(atTop(1L), 0);
        for (int i = 0; i < ZERO_COUNT_BITS && bits >>> i != 0L; i++) {
            if ((bits >>> i & 1L) == 1L) {
                answer = product(answer, power);
            }
            power = product(power, power);
        }
        return answer;
    }

    /** The remainder of the product of two registers as polynomials. */
    private long product(long a, long b) {
        long answer = 0L;
        for (int i = 0; i < width; i++) {
            answer = behindBit(answer, 0);
            if (a << i < 0L) {
                answer ^= b;
            }
        }
        return answer;
    }

    // The row

    private static boolean isByte(int b) {
        return b >= 0 && b < BYTE_VALUES;
    }

    private long asItComes(int b) {
        return in ? turned(b, BYTE_BITS) : b;
    }

    private int bitsOfRow() {
        return bytes * BYTE_BITS;
    }

    private static int shiftOfByte(int i) {
        return WORD_BITS - BYTE_BITS - i % WORD_BYTES * BYTE_BITS;
    }

    private int byteAt(int i) {
        return (int) (row[i / WORD_BYTES] >>> shiftOfByte(i)) & (BYTE_VALUES - 1);
    }

    private void turnBytesOfRow() {
        int words = (bytes + WORD_BYTES - 1) / WORD_BYTES;
        for (int i = 0; i < words; i++) {
            row[i] = bytesTurned(row[i]);
        }
    }

    /** In all eight bytes at once: halves change places, then pairs of bits, then single bits. */
    private static long bytesTurned(long word) {
        long halves = (word & 0x0F0F0F0F0F0F0F0FL) << 4 | word >>> 4 & 0x0F0F0F0F0F0F0F0FL;
        long pairs = (halves & 0x3333333333333333L) << 2 | halves >>> 2 & 0x3333333333333333L;
        return (pairs & 0x5555555555555555L) << 1 | pairs >>> 1 & 0x5555555555555555L;
    }

    // The four ways

    private long bitByBit() {
        long register = atTop(first);
        for (int i = 0; i < bytes; i++) {
            register = behindByte(register, byteAt(i));
        }
        return register;
    }

    private long byteByByte(long start, int from, int to) {
        long register = start;
        for (int i = from; i < to; i++) {
            register = behindByteByTable(register, byteAt(i));
        }
        return register;
    }

    /** Single bytes only before the first whole word and behind the last one. */
    private long eightAtOnce(int from, int to) {
        int firstWord = (from + WORD_BYTES - 1) / WORD_BYTES;
        int endWord = to / WORD_BYTES;
        if (firstWord >= endWord) {
            return byteByByte(atTop(first), from, to);
        }
        long register = byteByByte(atTop(first), from, firstWord * WORD_BYTES);
        for (int i = firstWord; i < endWord; i++) {
            register = behindWordByTables(register, row[i]);
        }
        return byteByByte(register, endWord * WORD_BYTES, to);
    }

    private long byDividing() {
        System.arraycopy(row, 0, dividend, 0, ROW_WORDS);
        dividend[ROW_WORDS] = 0L;
        dividend[0] ^= atTop(first);
        int places = bitsOfRow();
        for (int place = 0; place < places; place++) {
            if (dividend[place / WORD_BITS] << place % WORD_BITS < 0L) {
                addPolynomialAt(place);
            }
        }
        return dividendFrom(places);
    }

    private void addPolynomialAt(int place) {
        dividend[place / WORD_BITS] ^= 1L << (WORD_BITS - 1 - place % WORD_BITS);
        int word = (place + 1) / WORD_BITS;
        int shift = (place + 1) % WORD_BITS;
        dividend[word] ^= topPolynomial >>> shift;
        if (shift != 0) {
            dividend[word + 1] ^= topPolynomial << (WORD_BITS - shift);
        }
    }

    private long dividendFrom(int place) {
        int word = place / WORD_BITS;
        int shift = place % WORD_BITS;
        return shift == 0
                ? dividend[word]
                : dividend[word] << shift | dividend[word + 1] >>> (WORD_BITS - shift);
    }
}
