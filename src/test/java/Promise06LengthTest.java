/** Promise 6: the length counts the statements, stays in 0..CAP, and asking changes nothing. */
public final class Promise06LengthTest {
    private static final Due due = new Due("Promise06LengthTest");

    public static void main(String[] args) {
        for (int cap = 8; cap <= 16; cap++) counts(cap);
        changesNothing();
        due.end();
    }

    private static void counts(int cap) {
        TypestateChecker x = new TypestateChecker(cap);
        for (int i = 0; i < cap + 5; i++) {
            due.is("cap " + cap + ", length()", x.length(), i < cap ? i : cap);
            x.add(0, 0, 0);
            x.add(Kit.CALL, 0, 4);
            due.is("cap " + cap + ", length() after refusals", x.length(), i < cap ? i : cap);
            x.add(i % 9 + 1, 0, 1);
        }
        x.check();
        x.run(5, 50);
        due.is("cap " + cap + ", length() after check and run", x.length(), cap);
        x.clear();
        due.is("cap " + cap + ", length() after clear", x.length(), 0);
    }

    private static void changesNothing() {
        TypestateChecker x = Kit.file(Kit.CALL, 0, 0, Kit.SHARE, 2, 0, Kit.DROP, 1, 0);
        x.run(0, 2);
        String before = Kit.everything(x);
        due.is("length()", x.length(), 3);
        due.is("length() again", x.length(), 3);
        due.is("after length()", Kit.everything(x), before);
    }
}
