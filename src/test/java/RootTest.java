/** Promise 9: root, for all codes in all modes, by the oracle. */
public final class RootTest {
    private static final Checks CHECKS = new Checks("RootTest");

    public static void main(String[] args) {
        for (int mode = 0; mode < 4; mode++) {
            for (int a = 0; a < 256; a++) {
                Oracle due = new Oracle(mode);
                due.root(Oracle.value(a));
                root(mode, a, due.code, due.notes);
            }
        }
        CHECKS.finish();
    }

    private static void root(int mode, int a, int want, int wantNotes) {
        TinyFloats x = Checks.inMode(mode);
        int got = x.root(a);
        CHECKS.due("root(" + a + ")", mode, got, x.notes(), want, wantNotes);
    }
}
