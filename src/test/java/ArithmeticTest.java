/** Promises 5 to 8: add, subtract, multiply, divide, for all operands in all modes. */
public final class ArithmeticTest {
    private static final Checks CHECKS = new Checks("ArithmeticTest");

    public static void main(String[] args) {
        for (int mode = 0; mode < 4; mode++) {
            for (int a = 0; a < 256; a++) {
                for (int b = 0; b < 256; b++) {
                    add(mode, a, b);
                    subtract(mode, a, b);
                    multiply(mode, a, b);
                    divide(mode, a, b);
                }
            }
        }
        workedByHand();
        CHECKS.finish();
    }

    private static void add(int mode, int a, int b) {
        Oracle due = new Oracle(mode);
        due.sum(Oracle.value(a), Oracle.value(b));
        TinyFloats x = Checks.inMode(mode);
        row(mode, "add", a, b, x, x.add(a, b), due);
    }

    private static void subtract(int mode, int a, int b) {
        Oracle due = new Oracle(mode);
        due.sum(Oracle.value(a), -Oracle.value(b));
        TinyFloats x = Checks.inMode(mode);
        row(mode, "subtract", a, b, x, x.subtract(a, b), due);
    }

    private static void multiply(int mode, int a, int b) {
        Oracle due = new Oracle(mode);
        due.product(Oracle.value(a), Oracle.value(b));
        TinyFloats x = Checks.inMode(mode);
        row(mode, "multiply", a, b, x, x.multiply(a, b), due);
    }

    private static void divide(int mode, int a, int b) {
        Oracle due = new Oracle(mode);
        due.quotient(Oracle.value(a), Oracle.value(b));
        TinyFloats x = Checks.inMode(mode);
        row(mode, "divide", a, b, x, x.divide(a, b), due);
    }

    private static void row(int mode, String call, int a, int b, TinyFloats x, int got, Oracle due) {
        // The text is made only where it is needed: most of a million rows are right.
        if (got == due.code && x.notes() == due.notes) {
            CHECKS.due(call, got, due.code);
            return;
        }
        String text = call + "(" + a + ", " + b + ")";
        CHECKS.due(text, mode, got, x.notes(), due.code, due.notes);
    }

    /** Rows that do not rest on the oracle: code and notes read out of the document by hand. */
    private static void workedByHand() {
        // 240 + 8 is midway between 240 and 256, and 120 is the even code of the two.
        int[] sumsDue = {120, 119, 120, 119};
        int[] sumNotesDue = {3, 1, 3, 1};
        int[] negativeSumsDue = {248, 247, 247, 248};
        int[] negativeSumNotesDue = {3, 1, 1, 3};
        int[] zeroSumsDue = {0, 0, 0, 128};
        for (int mode = 0; mode < 4; mode++) {
            hand(mode, "add", 119, 80, sumsDue[mode], sumNotesDue[mode]);
            hand(mode, "add", 247, 208, negativeSumsDue[mode], negativeSumNotesDue[mode]);
            hand(mode, "subtract", 119, 208, sumsDue[mode], sumNotesDue[mode]);
            hand(mode, "add", 61, 189, zeroSumsDue[mode], 0);
            hand(mode, "subtract", 61, 61, zeroSumsDue[mode], 0);
            hand(mode, "subtract", 0, 0, zeroSumsDue[mode], 0);
            hand(mode, "subtract", 128, 0, 128, 0);
            hand(mode, "subtract", 0, 128, 0, 0);
            hand(mode, "add", 255, 120, 124, 0);
            hand(mode, "subtract", 120, 120, 124, 4);
            hand(mode, "subtract", 119, 120, 248, 0);
            hand(mode, "multiply", 128, 184, 0, 0);
            hand(mode, "multiply", 128, 56, 128, 0);
            hand(mode, "multiply", 128, 248, 124, 4);
            hand(mode, "multiply", 253, 0, 124, 0);
            hand(mode, "multiply", 248, 248, 120, 0);
            hand(mode, "divide", 184, 0, 248, 8);
            hand(mode, "divide", 129, 128, 120, 8);
            hand(mode, "divide", 248, 128, 120, 0);
            hand(mode, "divide", 128, 248, 0, 0);
            hand(mode, "divide", 128, 56, 128, 0);
            hand(mode, "divide", 125, 0, 124, 0);
            hand(mode, "divide", 128, 0, 124, 4);
            hand(mode, "divide", 248, 120, 124, 4);
        }
        // 16 times 16 is 256 exactly: lost and too great in every mode.
        hand(0, "multiply", 88, 88, 120, 3);
        hand(1, "multiply", 88, 88, 119, 3);
        hand(2, "multiply", 88, 216, 247, 3);
        hand(3, "multiply", 88, 216, 248, 3);
        // u / 2 is midway between 0 and u; 3 u / 2 midway between u and 2 u.
        hand(0, "divide", 1, 64, 0, 1);
        hand(0, "divide", 3, 64, 2, 1);
        hand(0, "divide", 129, 64, 128, 1);
        hand(2, "divide", 1, 119, 1, 1);
        hand(3, "divide", 1, 119, 0, 1);
        hand(2, "divide", 129, 119, 128, 1);
        hand(3, "divide", 129, 119, 129, 1);
    }

    private static void hand(int mode, String call, int a, int b, int want, int wantNotes) {
        TinyFloats x = Checks.inMode(mode);
        int got;
        switch (call) {
            case "add":
                got = x.add(a, b);
                break;
            case "subtract":
                got = x.subtract(a, b);
                break;
            case "multiply":
                got = x.multiply(a, b);
                break;
            default:
                got = x.divide(a, b);
                break;
        }
        CHECKS.due(call + "(" + a + ", " + b + ")", mode, got, x.notes(), want, wantNotes);
    }
}
