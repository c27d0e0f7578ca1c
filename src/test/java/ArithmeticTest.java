/** Promises 5 to 8: the four operations for all operands in all modes, by the oracle. */
public final class ArithmeticTest {
    private static final Checks CHECKS = new Checks("ArithmeticTest");

    public static void main(String[] args) {
        for (int mode = 0; mode < 4; mode++) {
            for (int a = 0; a < 256; a++) {
                for (int b = 0; b < 256; b++) {
                    add(mode, a, b);
                    subtract(mode, a, b);
                    multiply(mode, a, b);
                    divide(mode, a, b);
                }
            }
        }
        CHECKS.finish();
    }

    private static void add(int mode, int a, int b) {
        Oracle due = new Oracle(mode);
        due.sum(Oracle.value(a), Oracle.value(b));
        TinyFloats x = Checks.inMode(mode);
        row(mode, "add", a, b, x, x.add(a, b), due);
    }

    private static void subtract(int mode, int a, int b) {
        Oracle due = new Oracle(mode);
        due.sum(Oracle.value(a), -Oracle.value(b));
        TinyFloats x = Checks.inMode(mode);
        row(mode, "subtract", a, b, x, x.subtract(a, b), due);
    }

    private static void multiply(int mode, int a, int b) {
        Oracle due = new Oracle(mode);
        due.product(Oracle.value(a), Oracle.value(b));
        TinyFloats x = Checks.inMode(mode);
        row(mode, "multiply", a, b, x, x.multiply(a, b), due);
    }

    private static void divide(int mode, int a, int b) {
        Oracle due = new Oracle(mode);
        due.quotient(Oracle.value(a), Oracle.value(b));
        TinyFloats x = Checks.inMode(mode);
        row(mode, "divide", a, b, x, x.divide(a, b), due);
    }

    private static void row(int mode, String call, int a, int b, TinyFloats x, int got, Oracle due) {
        // The text is made only where it is needed: most of a million rows are right.
        if (got == due.code && x.notes() == due.notes) {
            CHECKS.due(call, got, due.code);
            return;
        }
        String text = call + "(" + a + ", " + b + ")";
        CHECKS.due(text, mode, got, x.notes(), due.code, due.notes);
    }
}
