/** Promise 11: compare, for all operands in all modes, by the oracle. */
public final class CompareTest {
    private static final Checks CHECKS = new Checks("CompareTest");

    public static void main(String[] args) {
        for (int mode = 0; mode < 4; mode++) {
            for (int a = 0; a < 256; a++) {
                for (int b = 0; b < 256; b++) {
                    compare(mode, a, b, due(Oracle.value(a), Oracle.value(b)));
                }
            }
        }
        CHECKS.finish();
    }

    private static int due(double a, double b) {
        if (Double.isNaN(a) || Double.isNaN(b)) {
            return 2;
        }
        return a < b ? -1 : a > b ? 1 : 0;
    }

    private static void compare(int mode, int a, int b, int want) {
        TinyFloats x = Checks.inMode(mode);
        int got = x.compare(a, b);
        CHECKS.due("compare(" + a + ", " + b + ")", mode, got, x.notes(), want, 0);
    }
}
