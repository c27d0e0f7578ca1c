/** Promises 12 and 13: from and whole, in all modes, by the oracle. */
public final class WholeNumberTest {
    private static final Checks CHECKS = new Checks("WholeNumberTest");

    public static void main(String[] args) {
        for (int mode = 0; mode < 4; mode++) {
            for (int n = -3000; n <= 3000; n++) {
                fromByOracle(mode, n);
            }
            for (int n = 3001; n <= 1000000; n += 331) {
                fromByOracle(mode, n);
                fromByOracle(mode, -n);
            }
            fromByOracle(mode, 1000000);
            fromByOracle(mode, -1000000);
            for (int a = 0; a < 256; a++) {
                whole(mode, a, new Oracle(mode).whole(Oracle.value(a)));
            }
        }
        CHECKS.finish();
    }

    private static void fromByOracle(int mode, int n) {
        Oracle due = new Oracle(mode);
        due.from(n);
        from(mode, n, due.code, due.notes);
    }

    private static void from(int mode, int n, int want, int wantNotes) {
        TinyFloats x = Checks.inMode(mode);
        int got = x.from(n);
        CHECKS.due("from(" + n + ")", mode, got, x.notes(), want, wantNotes);
    }

    private static void whole(int mode, int a, int want) {
        TinyFloats x = Checks.inMode(mode);
        int got = x.whole(a);
        CHECKS.due("whole(" + a + ")", mode, got, x.notes(), want, 0);
    }
}
