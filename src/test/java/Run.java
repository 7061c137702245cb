/**
 * A run of calls on a new object, with the slow one beside it: every answer is compared with the
 * slow one's. A run is never longer than the document promises answers for.
 */
final class Run {
    static final int MOST_CALLS = 512;

    private final Due due;
    private final SliceChecks fast = new SliceChecks();
    private final SlowChecks slow = new SlowChecks();
    private int calls = 0;
    private String lastCall = "";

    Run(Due due) {
        this.due = due;
    }

    Run(Due due, Kind kind) {
        this(due);
        kind(kind);
    }

    int callsLeft() {
        return MOST_CALLS - calls;
    }

    /** For what the document itself says of an answer: {@code x.due(x.flip(-1), false)}. */
    void due(boolean got, boolean want) {
        due.same(lastCall, got, want);
    }

    void due(long got, long want) {
        due.same(lastCall, got, want);
    }

    boolean kind(Kind kind) {
        return kind(kind.width(), kind.polynomial(), kind.first(), kind.in(), kind.out(), kind.last());
    }

    boolean kind(int width, long polynomial, long first, boolean in, boolean out, long last) {
        call("kind(" + width + ", " + polynomial + ", " + first + ", " + in + ", " + out + ", " + last + ")");
        return same(fast.kind(width, polynomial, first, in, out, last),
                slow.kind(width, polynomial, first, in, out, last));
    }

    boolean feed(int b, int times) {
        call("feed(" + b + ", " + times + ")");
        return same(fast.feed(b, times), slow.feed(b, times));
    }

    void feed(String text) {
        for (int i = 0; i < text.length(); i++) {
            feed(text.charAt(i), 1);
        }
    }

    void clear() {
        call("clear()");
        fast.clear();
        slow.clear();
    }

    boolean flip(int i) {
        call("flip(" + i + ")");
        return same(fast.flip(i), slow.flip(i));
    }

    long check(int way) {
        call("check(" + way + ")");
        return same(fast.check(way), slow.check(way));
    }

    /** All four ways must give this check. */
    void checks(long want) {
        for (int way = 0; way < 4; way++) {
            due(check(way), want);
        }
    }

    long part(int from, int to) {
        call("part(" + from + ", " + to + ")");
        return same(fast.part(from, to), slow.part(from, to));
    }

    long joined(long a, long b, int bytes) {
        call("joined(" + a + ", " + b + ", " + bytes + ")");
        return same(fast.joined(a, b, bytes), slow.joined(a, b, bytes));
    }

    long entry(int k, int b) {
        call("entry(" + k + ", " + b + ")");
        return same(fast.entry(k, b), slow.entry(k, b));
    }

    long zeros(long register, int bits) {
        call("zeros(" + register + ", " + bits + ")");
        return same(fast.zeros(register, bits), slow.zeros(register, bits));
    }

    int round() {
        call("round()");
        return (int) same(fast.round(), slow.round());
    }

    boolean holds() {
        call("holds()");
        return same(fast.holds(), slow.holds());
    }

    int count(int what) {
        call("count(" + what + ")");
        return (int) same(fast.count(what), slow.count(what));
    }

    long told(int what) {
        call("told(" + what + ")");
        return same(fast.told(what), slow.told(what));
    }

    private void call(String text) {
        if (calls == MOST_CALLS) {
            throw new IllegalStateException("a test makes more than 512 calls on one object");
        }
        calls++;
        lastCall = "call " + calls + ", " + text + " of " + slow;
    }

    private long same(long got, long want) {
        due.same(lastCall, got, want);
        return got;
    }

    private boolean same(boolean got, boolean want) {
        due.same(lastCall, got, want);
        return got;
    }
}
