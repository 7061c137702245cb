import java.util.Random;

/** All promises together: runs of 512 calls with any arguments, against the slow object. */
final class RunsTest {
    private static final int RUNS = 300;
    private static final int CALLS_OF_A_STEP = 4;
    private static final int MOST_TOLD = 20;
    private static final int[] EDGES = {
        Integer.MIN_VALUE, -9, -8, -1, 0, 1, 2, 3, 4, 5, 7, 8, 9, 63, 64, 65, 70, 71, 127, 128, 255,
        256, 4096, 4999, 5000, 5001, 39999, 40000, 999999, 1000000, 1000001, Integer.MAX_VALUE,
    };

    private final Random source;
    private final Run x;

    private RunsTest(Due due, int seed) {
        source = new Random(seed);
        x = new Run(due);
    }

    public static void main(String[] args) {
        Due due = new Due();
        for (int seed = 0; seed < RUNS && due.wrong() < MOST_TOLD; seed++) {
            due.sentence("run " + seed);
            RunsTest run = new RunsTest(due, seed);
            int wrongBefore = due.wrong();
            while (run.x.callsLeft() >= CALLS_OF_A_STEP && due.wrong() == wrongBefore) {
                run.step();
            }
        }
        due.end();
    }

    private void step() {
        int bytes = x.count(0);
        switch (source.nextInt(20)) {
            case 0, 1 -> kind();
            case 2, 3, 4, 5 -> x.feed(source.nextInt(256), 1 + source.nextInt(12));
            case 6 -> x.feed(edge(), edge());
            case 7 -> seldomClear();
            case 8, 9 -> x.flip(source.nextInt(Math.max(1, 8 * bytes)));
            case 10 -> x.flip(edge());
            case 11 -> x.check(source.nextInt(4));
            case 12 -> x.part(source.nextInt(bytes + 1), source.nextInt(bytes + 1));
            case 13 -> x.part(edge(), edge());
            case 14 -> joined();
            case 15 -> entry();
            case 16 -> zeros();
            case 17 -> x.holds();
            case 18 -> tell(edge());
            default -> x.check(edge());
        }
        tell(source.nextInt(4));
    }

    private int edge() {
        return EDGES[source.nextInt(EDGES.length)];
    }

    private void kind() {
        int width = source.nextInt(8) == 0 ? edge() : 1 + source.nextInt(64);
        x.kind(Kind.any(width, source));
        if (source.nextInt(4) == 0) {
            x.round();
        }
    }

    private void seldomClear() {
        if (source.nextInt(4) == 0) {
            x.clear();
        }
    }

    private void joined() {
        int bytes = source.nextBoolean() ? edge() : source.nextInt();
        x.joined(source.nextLong(), source.nextLong(), bytes);
    }

    private void entry() {
        int k = source.nextInt(4) == 0 ? edge() : source.nextInt(8);
        int b = source.nextInt(4) == 0 ? edge() : source.nextInt(256);
        x.entry(k, b);
    }

    private void zeros() {
        x.zeros(source.nextLong(), source.nextBoolean() ? edge() : source.nextInt(1000001));
    }

    private void tell(int what) {
        if (source.nextBoolean()) {
            x.count(what);
        } else {
            x.told(what);
        }
    }
}
