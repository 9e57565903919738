/** Counts and prints the answers that are not as due; end() leaves with exit code 1 if there was one. */
final class Due {
    private final String test;
    private String about = "";
    private int wrong = 0;
    private int asked = 0;

    Due(String test) {
        this.test = test;
    }

    /** The sentence that the next answers belong to; a wrong one is told with it. */
    void about(String words) {
        about = words;
    }

    int asked() {
        return asked;
    }

    void is(String what, long got, long want) {
        asked++;
        if (got != want) tell(what + " answered " + got + ", due is " + want);
    }

    void is(String what, boolean got, boolean want) {
        asked++;
        if (got != want) tell(what + " answered " + got + ", due is " + want);
    }

    void is(String what, String got, String want) {
        asked++;
        if (!got.equals(want)) tell(what + " is " + got + ", due is " + want);
    }

    private void tell(String line) {
        wrong++;
        if (wrong > 50) return;
        System.out.println(test + ": " + line);
        if (!about.isEmpty()) System.out.println("    the document says: " + about);
    }

    void end() {
        System.out.println(test + ": " + asked + " answers, " + wrong + " wrong");
        if (wrong != 0) System.exit(1);
    }
}
