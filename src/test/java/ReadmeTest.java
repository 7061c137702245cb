import java.io.IOException;
import java.nio.file.Files;
import java.nio.file.Path;
import java.util.List;

/** The example in README.md: each of its lines stands there with the answer that comes. */
final class ReadmeTest {
    private static final int CALLS_WITH_ANSWERS = 14;

    private final Due due = new Due();
    private final List<String> lines;

    private ReadmeTest(List<String> lines) {
        this.lines = lines;
    }

    public static void main(String[] args) throws IOException {
        ReadmeTest test = new ReadmeTest(Files.readAllLines(Path.of("README.md")));
        test.example();
        test.noOtherLines();
        test.due.end();
    }

    private void example() {
        due.sentence("the example in README.md");
        Run x = new Run(due);
        x.feed(Kind.DIGITS);
        says("x.check(0);", x.check(0));
        says("x.check(2);", x.check(2));
        says("x.part(0, 4);", x.part(0, 4));
        says("x.joined(0x9BE3E0A3L, x.part(4, 9), 5);", x.joined(0x9BE3E0A3L, x.part(4, 9), 5));
        says("x.kind(16, 0x1021, 0xFFFF, false, false, 0);", x.kind(16, 0x1021, 0xFFFF, false, false, 0));
        says("x.check(3);", x.check(3));
        says("x.entry(0, 1);", x.entry(0, 1));
        says("x.zeros(1, 16);", x.zeros(1, 16));
        says("x.round();", x.round());
        says("x.flip(7);", x.flip(7));
        says("x.check(1);", x.check(1));
        says("x.holds();", x.holds());
        says("x.count(0);", x.count(0));
        says("x.told(1);", x.told(1));
    }

    private void noOtherLines() {
        long told = lines.stream().filter(line -> line.matches("x\\..*// .*:.*")).count();
        due.same("calls with answers in README.md", told, CALLS_WITH_ANSWERS);
    }

    private void says(String call, long got) {
        due.same(call, got, Long.decode(answerOf(call)));
    }

    private void says(String call, boolean got) {
        due.same(call, got, Boolean.parseBoolean(answerOf(call)));
    }

    /** The line is {@code call   // answer: why}. */
    private String answerOf(String call) {
        for (String line : lines) {
            if (line.startsWith(call)) {
                return line.replaceAll(".*// |:.*", "");
            }
        }
        throw new IllegalStateException("README.md has no line " + call);
    }
}
