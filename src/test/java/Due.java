/** Counts the answers that are not due, and tells them, with the document's words that they are about. */
final class Due {
    private final String test;
    private String words = "";
    private int asked;
    private int wrong;

    Due(String test) {
        this.test = test;
    }

    /** From here on answers are about these words of the document. */
    void about(String quoted) {
        words = " [" + quoted + "]";
    }

    void is(String call, long got, long want) {
        asked++;
        if (got == want) return;
        wrong++;
        if (wrong <= 40) System.out.println(test + words + ": " + call + " answered " + got + ", due is " + want);
    }

    void isTrue(String what, boolean got) {
        is(what, got ? 1 : 0, 1);
    }

    int wrong() {
        return wrong;
    }

    void end() {
        System.out.println(test + ": " + asked + " answers, " + wrong + " not as due");
        if (wrong != 0) System.exit(1);
    }
}
