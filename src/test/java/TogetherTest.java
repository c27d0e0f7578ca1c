/**
 * Promise 10: together, for all a and b with the codes c at the edges, in all modes; with the
 * argument "all", for all c (some 15 seconds).
 */
public final class TogetherTest {
    private static final Checks CHECKS = new Checks("TogetherTest");
    private static final int[] EDGES = {0, 1, 7, 8, 15, 16, 33, 56, 57, 87, 104, 118, 119, 120, 121};

    public static void main(String[] args) {
        boolean all = args.length > 0 && args[0].equals("all");
        for (int mode = 0; mode < 4; mode++) {
            if (all) {
                for (int c = 0; c < 256; c++) {
                    allProducts(mode, c);
                }
            } else {
                for (int c : EDGES) {
                    allProducts(mode, c);
                    allProducts(mode, c + 128);
                }
            }
            workedByHand(mode);
        }
        CHECKS.finish();
    }

    private static void allProducts(int mode, int c) {
        for (int a = 0; a < 256; a++) {
            for (int b = 0; b < 256; b++) {
                Oracle due = new Oracle(mode);
                due.together(Oracle.value(a), Oracle.value(b), Oracle.value(c));
                together(mode, a, b, c, due.code, due.notes);
            }
        }
    }

    private static void workedByHand(int mode) {
        int zeroSum = mode == 3 ? 128 : 0;
        together(mode, 0, 56, 128, zeroSum, 0);
        together(mode, 128, 56, 0, zeroSum, 0);
        together(mode, 128, 56, 128, 128, 0);
        together(mode, 128, 184, 0, 0, 0);
        together(mode, 60, 64, 196, zeroSum, 0);
        together(mode, 0, 119, 61, 61, 0);
        together(mode, 120, 128, 5, 124, 4);
        together(mode, 0, 248, 120, 124, 4);
        together(mode, 120, 0, 125, 124, 0);
        together(mode, 120, 184, 120, 124, 4);
        together(mode, 120, 184, 248, 248, 0);
        together(mode, 248, 184, 119, 120, 0);
        together(mode, 119, 119, 248, 248, 0);
        together(mode, 255, 0, 0, 124, 0);
        // 1.125 times 1.125 is 1.265625, which has no code; less 1.125 it is exactly 9 / 64.
        together(mode, 57, 57, 185, 33, 0);
        // The product alone is 256, too great; the sum 240 is not.
        together(mode, 88, 88, 216, 119, 0);
    }

    private static void together(int mode, int a, int b, int c, int want, int wantNotes) {
        TinyFloats x = Checks.inMode(mode);
        int got = x.together(a, b, c);
        if (got == want && x.notes() == wantNotes) {
            CHECKS.due("together", got, want);
            return;
        }
        String text = "together(" + a + ", " + b + ", " + c + ")";
        CHECKS.due(text, mode, got, x.notes(), want, wantNotes);
    }
}
