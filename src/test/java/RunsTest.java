import java.util.Random;

/** All promises together: runs of 512 calls with any arguments, against the slow object. */
final class RunsTest {
    private static final int RUNS = 120;
    private static final int CALLS = 512;
    private static final int MOST_TOLD = 20;
    private static final int[] EDGES = {
        Integer.MIN_VALUE, -9, -8, -1, 0, 1, 2, 3, 4, 5, 7, 8, 9, 63, 64, 65, 70, 71, 127, 128, 255,
        256, 4096, 4999, 5000, 5001, 39999, 40000, 999999, 1000000, 1000001, Integer.MAX_VALUE,
    };

    private final Due due = new Due();
    private final Random source;
    private final SliceChecks fast = new SliceChecks();
    private final SlowChecks slow = new SlowChecks();
    private final String run;

    private RunsTest(int seed) {
        source = new Random(seed);
        run = "run " + seed + ": ";
    }

    public static void main(String[] args) {
        int wrong = 0;
        for (int seed = 0; seed < RUNS && wrong < MOST_TOLD; seed++) {
            RunsTest test = new RunsTest(seed);
            for (int i = 0; i < CALLS && test.due.wrong() == 0; i++) {
                test.oneCall();
            }
            wrong += test.due.wrong();
        }
        System.out.println(RUNS + " runs, " + wrong + " not as due");
        if (wrong != 0) {
            System.exit(1);
        }
    }

    private void oneCall() {
        switch (source.nextInt(20)) {
            case 0, 1 -> kind();
            case 2, 3, 4, 5 -> feed(source.nextInt(256), 1 + source.nextInt(12));
            case 6 -> feed(edge(), edge());
            case 7 -> clear();
            case 8, 9 -> flip(source.nextInt(Math.max(1, 8 * fast.count(0))));
            case 10 -> flip(edge());
            case 11 -> check(source.nextInt(4));
            case 12 -> part(source.nextInt(fast.count(0) + 1), source.nextInt(fast.count(0) + 1));
            case 13 -> part(edge(), edge());
            case 14 -> joined();
            case 15 -> entry();
            case 16 -> zeros();
            case 17 -> same("holds()", fast.holds(), slow.holds());
            case 18 -> tell(edge());
            default -> check(edge());
        }
        tell(source.nextInt(4));
    }

    private int edge() {
        return EDGES[source.nextInt(EDGES.length)];
    }

    private void same(String call, long got, long want) {
        due.same(run + call, got, want);
    }

    private void same(String call, boolean got, boolean want) {
        due.same(run + call, got, want);
    }

    private void kind() {
        int width = source.nextInt(8) == 0 ? edge() : 1 + source.nextInt(64);
        Kind kind = Kind.any(width, source);
        same(kind.toString(), kind.giveTo(fast), kind.giveTo(slow));
        if (source.nextInt(4) == 0) {
            same("round()", fast.round(), slow.round());
        }
    }

    private void feed(int b, int times) {
        same("feed(" + b + ", " + times + ")", fast.feed(b, times), slow.feed(b, times));
    }

    private void clear() {
        if (source.nextInt(4) == 0) {
            fast.clear();
            slow.clear();
        }
    }

    private void flip(int i) {
        same("flip(" + i + ")", fast.flip(i), slow.flip(i));
    }

    private void check(int way) {
        // The slow way to divide is too slow for rows of thousands of bytes.
        int slowWay = way == 3 && slow.count(0) > 600 ? 0 : way;
        same("check(" + way + ")", fast.check(way), slow.check(slowWay));
    }

    private void part(int from, int to) {
        same("part(" + from + ", " + to + ")", fast.part(from, to), slow.part(from, to));
    }

    private void joined() {
        long a = source.nextLong();
        long b = source.nextLong();
        int bytes = source.nextBoolean() ? edge() : source.nextInt();
        same("joined(" + a + ", " + b + ", " + bytes + ")", fast.joined(a, b, bytes), slow.joined(a, b, bytes));
    }

    private void entry() {
        int k = source.nextInt(4) == 0 ? edge() : source.nextInt(8);
        int b = source.nextInt(4) == 0 ? edge() : source.nextInt(256);
        same("entry(" + k + ", " + b + ")", fast.entry(k, b), slow.entry(k, b));
    }

    private void zeros() {
        long register = source.nextLong();
        int bits = source.nextBoolean() ? edge() : source.nextInt(1000001);
        same("zeros(" + register + ", " + bits + ")", fast.zeros(register, bits), slow.zeros(register, bits));
    }

    private void tell(int what) {
        same("count(" + what + ")", fast.count(what), slow.count(what));
        same("told(" + what + ")", fast.told(what), slow.told(what));
    }
}
