/** Counts the answers of a test, and prints those that are not as due with the sentence they break. */
final class Due {
    private String sentence = "";
    private int asked = 0;
    private int wrong = 0;

    /** What is asked from here on is a test of this sentence of the document. */
    void sentence(String words) {
        sentence = words;
    }

    void same(String call, long got, long want) {
        asked++;
        if (got != want) {
            tell(call + " answered " + got + ", due is " + want);
        }
    }

    void same(String call, boolean got, boolean want) {
        asked++;
        if (got != want) {
            tell(call + " answered " + got + ", due is " + want);
        }
    }

    private void tell(String fault) {
        wrong++;
        System.out.println("[" + sentence + "] " + fault);
    }

    int wrong() {
        return wrong;
    }

    void end() {
        System.out.println(asked + " answers, " + wrong + " not as due");
        if (wrong != 0 || asked == 0) {
            System.exit(1);
        }
    }
}
