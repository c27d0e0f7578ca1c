/**
 * Promise 10: together, for all a and b with the codes c at the edges, in all modes, by the oracle;
 * with the argument "all", for all c (some 15 seconds).
 */
public final class TogetherTest {
    private static final Checks CHECKS = new Checks("TogetherTest");
    private static final int[] EDGES = {0, 1, 7, 8, 15, 16, 33, 56, 57, 87, 104, 118, 119, 120, 121};

    public static void main(String[] args) {
        boolean all = args.length > 0 && args[0].equals("all");
        for (int mode = 0; mode < 4; mode++) {
            if (all) {
                for (int c = 0; c < 256; c++) {
                    allProducts(mode, c);
                }
            } else {
                for (int c : EDGES) {
                    allProducts(mode, c);
                    allProducts(mode, c + 128);
                }
            }
        }
        CHECKS.finish();
    }

    private static void allProducts(int mode, int c) {
        for (int a = 0; a < 256; a++) {
            for (int b = 0; b < 256; b++) {
                Oracle due = new Oracle(mode);
                due.together(Oracle.value(a), Oracle.value(b), Oracle.value(c));
                together(mode, a, b, c, due.code, due.notes);
            }
        }
    }

    private static void together(int mode, int a, int b, int c, int want, int wantNotes) {
        TinyFloats x = Checks.inMode(mode);
        int got = x.together(a, b, c);
        if (got == want && x.notes() == wantNotes) {
            CHECKS.due("together", got, want);
            return;
        }
        String text = "together(" + a + ", " + b + ", " + c + ")";
        CHECKS.due(text, mode, got, x.notes(), want, wantNotes);
    }
}
