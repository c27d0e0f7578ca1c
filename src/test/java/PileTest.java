/** Promises 14 to 16: pile, pileProduct, store, by the oracle. */
public final class PileTest {
    private static final Checks CHECKS = new Checks("PileTest");

    public static void main(String[] args) {
        for (int mode = 0; mode < 4; mode++) {
            for (int held = 0; held < 256; held++) {
                storeAnswersTheOneBefore(mode, held);
                for (int a = 0; a < 256; a++) {
                    pile(mode, held, a);
                }
            }
            for (int held : new int[] {0, 1, 8, 56, 119, 120, 125, 128, 185, 216, 247, 248}) {
                for (int a = 0; a < 256; a++) {
                    for (int b = 0; b < 256; b++) {
                        pileProduct(mode, held, a, b);
                    }
                }
            }
        }
        CHECKS.finish();
    }

    private static void storeAnswersTheOneBefore(int mode, int held) {
        TinyFloats x = Checks.inMode(mode);
        CHECKS.due("new: store(" + held + ")", x.store(held), 0);
        CHECKS.due("store(255) after store(" + held + ")", x.store(255), held);
        CHECKS.due("store(0) after store(255)", x.store(0), 255);
        CHECKS.due("store(1) after store(0)", x.store(1), 0);
    }

    private static void pile(int mode, int held, int a) {
        Oracle due = new Oracle(mode);
        due.sum(Oracle.value(held), Oracle.value(a));
        TinyFloats x = Checks.inMode(mode);
        x.store(held);
        int got = x.pile(a);
        row("pile(" + a + ")", mode, held, x, got, due);
    }

    private static void pileProduct(int mode, int held, int a, int b) {
        Oracle due = new Oracle(mode);
        due.together(Oracle.value(a), Oracle.value(b), Oracle.value(held));
        TinyFloats x = Checks.inMode(mode);
        x.store(held);
        int got = x.pileProduct(a, b);
        row("pileProduct(" + a + ", " + b + ")", mode, held, x, got, due);
    }

    private static void row(String call, int mode, int held, TinyFloats x, int got, Oracle due) {
        String text = "store " + held + ": " + call;
        CHECKS.due(text, mode, got, x.notes(), due.code, due.notes);
        CHECKS.due("store(0) after " + text, x.store(0), due.code);
    }
}
