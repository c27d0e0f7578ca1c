/** Promise 11: compare, for all operands in all modes. */
public final class CompareTest {
    private static final Checks CHECKS = new Checks("CompareTest");

    public static void main(String[] args) {
        for (int mode = 0; mode < 4; mode++) {
            for (int a = 0; a < 256; a++) {
                for (int b = 0; b < 256; b++) {
                    compare(mode, a, b, due(Oracle.value(a), Oracle.value(b)));
                }
            }
            compare(mode, 0, 128, 0);
            compare(mode, 128, 0, 0);
            compare(mode, 129, 128, -1);
            compare(mode, 119, 120, -1);
            compare(mode, 120, 120, 0);
            compare(mode, 248, 248, 0);
            compare(mode, 248, 120, -1);
            compare(mode, 247, 248, 1);
            compare(mode, 125, 125, 2);
            compare(mode, 120, 255, 2);
            compare(mode, 184, 185, 1);
            compare(mode, 7, 8, -1);
        }
        CHECKS.finish();
    }

    private static int due(double a, double b) {
        if (Double.isNaN(a) || Double.isNaN(b)) {
            return 2;
        }
        return a < b ? -1 : a > b ? 1 : 0;
    }

    private static void compare(int mode, int a, int b, int want) {
        TinyFloats x = Checks.inMode(mode);
        int got = x.compare(a, b);
        CHECKS.due("compare(" + a + ", " + b + ")", mode, got, x.notes(), want, 0);
    }
}
