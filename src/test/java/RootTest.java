/** Promise 9: root, for all codes in all modes. */
public final class RootTest {
    private static final Checks CHECKS = new Checks("RootTest");

    public static void main(String[] args) {
        for (int mode = 0; mode < 4; mode++) {
            for (int a = 0; a < 256; a++) {
                Oracle due = new Oracle(mode);
                due.root(Oracle.value(a));
                root(mode, a, due.code, due.notes);
            }
            workedByHand(mode);
        }
        int[] rootOfTwoDue = {59, 59, 60, 59};
        for (int mode = 0; mode < 4; mode++) {
            root(mode, 64, rootOfTwoDue[mode], 1);
        }
        CHECKS.finish();
    }

    private static void workedByHand(int mode) {
        root(mode, 0, 0, 0);
        root(mode, 128, 128, 0);
        root(mode, 120, 120, 0);
        root(mode, 248, 124, 4);
        root(mode, 129, 124, 4);
        root(mode, 247, 124, 4);
        root(mode, 121, 124, 0);
        root(mode, 255, 124, 0);
        root(mode, 72, 64, 0);
        root(mode, 56, 56, 0);
        root(mode, 40, 48, 0);
        // 2 u is 1 / 256, of which the root is 1 / 16.
        root(mode, 2, 24, 0);
    }

    private static void root(int mode, int a, int want, int wantNotes) {
        TinyFloats x = Checks.inMode(mode);
        int got = x.root(a);
        CHECKS.due("root(" + a + ")", mode, got, x.notes(), want, wantNotes);
    }
}
