/** Promise 6, sentence by sentence: from the empty program to the full one, and no further. */
public final class Boundary06LengthTest {
    private static final Section section = new Section("Boundary06LengthTest", "## Promise 6: Length", "## ");
    private static final Due due = section.due;

    public static void main(String[] args) {
        section.sentence("`length()` answers the number of statements in the program, always in 0..CAP.",
            Boundary06LengthTest::counts);
        section.sentence("It changes nothing.",
            () -> Situations.ask(due, "length()", x -> due.is("length() twice", x.length(), x.length())));
        section.end();
    }

    private static void counts() {
        for (int given : Kit.around(8, 16)) {
            int cap = given < 8 ? 8 : given > 16 ? 16 : given;
            TypestateChecker x = new TypestateChecker(given);
            for (int tries = 0; tries <= cap + 3; tries++) {
                int want = tries < cap ? tries : cap;
                due.is("length() after " + tries + " statements of " + cap, x.length(), want);
                x.add(0, 0, 0);
                x.add(Kit.SHARE, 1, 1);
                x.run(tries, tries);
                x.check();
                due.is("length() after refused ones, run and check", x.length(), want);
                x.add(1 + tries % 9, 0, 1);
            }
            x.clear();
            due.is("length() when cleared", x.length(), 0);
            x.clear();
            due.is("length() when cleared again", x.length(), 0);
        }
    }
}
