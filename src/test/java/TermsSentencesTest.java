import java.util.ArrayList;
import java.util.List;

/** The sentences under "Terms", and the one on 512 calls under "What it is". */
public final class TermsSentencesTest {
    private static final Sentences DOC = new Sentences("TermsSentencesTest");
    private static final int[] NONE_NUMBERS =
            {121, 122, 123, 124, 125, 126, 127, 249, 250, 251, 252, 253, 254, 255};

    public static void main(String[] args) {
        DOC.under("What it is");
        manyCalls();
        DOC.under("Terms");
        codes();
        noneNumbersAndInfiniteOnes();
        values();
        knownValues();
        modes();
        roundingInMode0();
        roundingInMode1();
        roundingInMode2();
        roundingInMode3();
        roundingToZero();
        notesAreCollected();
        lost();
        tooGreat();
        senselessAndByZero();
        noneNumberIsAlways124();
        noneNumberOperand();
        senselessOperations();
        noCallThrows();
        refusedCalls();
        badArg();
        DOC.finish();
    }

    private static void manyCalls() {
        DOC.sentence("An object is used for at most 512 calls after it has been made; what later"
                + " calls answer is free.");
        String[] rows = new String[512];
        for (int i = 0; i < 508; i++) {
            rows[i] = i % 2 == 0 ? "pile(88) = 88" : "pile(216) = 0";
        }
        rows[508] = "mode(3) = 0";
        rows[509] = "pile(56) = 56";
        rows[510] = "pileProduct(56, 184) = 128";
        rows[511] = "notes() = 0";
        DOC.run(rows);
    }

    private static void codes() {
        DOC.sentence("A CODE is a number 0 to 255: its sign s is the digit 128, its exponent e the"
                + " digits 8 to 64 (code / 8 % 16), its fraction m the digits 1 to 4 (code % 8).");
        DOC.run("store(-1) = -1", "store(0) = 0", "store(255) = 0", "store(256) = -1",
                "store(0) = 255");
        for (int size = 1; size <= 120; size++) {
            DOC.inAllModes(Calls.text("compare", size, size + 128), 1, 0);
            DOC.inAllModes(Calls.text("compare", size + 128, size), -1, 0);
        }
        // 16 (8 + m) / 8 for e = 11: the fraction counts 2 each.
        for (int m = 0; m < 8; m++) {
            DOC.inAllModes(Calls.text("whole", 11 * 8 + m), 16 + 2 * m, 0);
            DOC.inAllModes(Calls.text("whole", 128 + 11 * 8 + m), -16 - 2 * m, 0);
        }
        // 1 for e = 7 and twice as much for each step of e.
        for (int e = 7; e < 15; e++) {
            DOC.inAllModes(Calls.text("whole", e * 8), 1 << (e - 7), 0);
        }
    }

    private static void noneNumbersAndInfiniteOnes() {
        DOC.sentence("If e = 15 and m > 0 it is NONE-NUMBER; if e = 15 and m = 0 it is INFINITE,"
                + " positive for s = 0 and negative for s = 1.");
        for (int none : NONE_NUMBERS) {
            DOC.inAllModes(Calls.text("compare", none, none), 2, 0);
            DOC.inAllModes(Calls.text("whole", none), 9999, 0);
        }
        DOC.inAllModes("whole(120)", 1000, 0);
        DOC.inAllModes("whole(248)", -1000, 0);
        DOC.inAllModes("compare(120, 120)", 0, 0);
        DOC.inAllModes("compare(248, 248)", 0, 0);
        DOC.inAllModes("compare(119, 119)", 0, 0);
        DOC.inAllModes("compare(247, 247)", 0, 0);
    }

    /** Each finite code but the last plus the unit of its exponent is the next code, exactly. */
    private static void values() {
        DOC.sentence("Every other code is FINITE and has a VALUE: with u = 1 / 512, it is m u for"
                + " e = 0 and (8 + m) 2^(e - 1) u for e > 0, times -1 if s = 1.");
        // The codes of u, u, 2 u, 4 u, 8 u, 16 u .. 8192 u = 16, for e = 0 to 14.
        int[] units = {1, 1, 2, 4, 8, 16, 24, 32, 40, 48, 56, 64, 72, 80, 88};
        for (int code = 0; code < 119; code++) {
            int unit = units[code / 8];
            DOC.inAllModes(Calls.text("add", code, unit), code + 1, 0);
            DOC.inAllModes(Calls.text("add", code + 128, unit + 128), code + 129, 0);
        }
        // 8192 u is 16 and 512 u is 1.
        DOC.inAllModes("whole(88)", 16, 0);
        DOC.inAllModes("whole(56)", 1, 0);
        // From e = 0 to e = 1 the unit stays u: 8 u less 7 u is u.
        DOC.inAllModes("subtract(8, 7)", 1, 0);
        DOC.inAllModes("subtract(7, 8)", 129, 0);
    }

    private static void knownValues() {
        DOC.sentence("So the codes 0 and 128 have the value 0 (positive and negative zero), 56 has"
                + " the value 1, the greatest value is 240 (code 119).");
        DOC.inAllModes("compare(0, 128)", 0, 0);
        DOC.inAllModes("whole(0)", 0, 0);
        DOC.inAllModes("whole(128)", 0, 0);
        DOC.inAllModes("whole(56)", 1, 0);
        DOC.inAllModes("from(1)", 56, 0);
        DOC.inAllModes("whole(119)", 240, 0);
        DOC.inAllModes("from(240)", 119, 0);
        for (int code = 0; code < 119; code++) {
            DOC.inAllModes(Calls.text("compare", code, 119), -1, 0);
            DOC.inAllModes(Calls.text("compare", code + 128, 119), -1, 0);
        }
    }

    private static void modes() {
        DOC.sentence("MODES are 0 to 3.");
        DOC.run("mode(0) = 0", "mode(1) = 0", "mode(2) = 1", "mode(3) = 2", "mode(4) = -1",
                "mode(-1) = -1", "mode(0) = 3");
    }

    private static void roundingInMode0() {
        DOC.sentence("ROUNDING a number x other than 0 gives a code: in mode 0 the code of the value"
                + " that is nearest to x, where 256 and -256 are taken as values too, with the codes"
                + " 120 and 248 (infinite); of two that are as near the one with an even code.");
        // 248 is as near to 240 as to 256; an eighth less or more decides.
        DOC.inMode(0, "together(17, 118, 119)", 119, 1);
        DOC.inMode(0, "from(248)", 120, 3);
        DOC.inMode(0, "together(18, 117, 119)", 120, 3);
        DOC.inMode(0, "together(17, 246, 247)", 247, 1);
        DOC.inMode(0, "from(-248)", 248, 3);
        DOC.inMode(0, "together(18, 245, 247)", 248, 3);
        DOC.inMode(0, "from(1000000)", 120, 3);
        DOC.inMode(0, "from(-1000000)", 248, 3);
        DOC.inMode(0, "from(17)", 88, 1);
        DOC.inMode(0, "from(19)", 90, 1);
        DOC.inMode(0, "from(-17)", 216, 1);
        DOC.inMode(0, "from(-19)", 218, 1);
        // 15.5 lies between two exponents.
        DOC.inMode(0, "add(87, 48)", 88, 1);
        // u / 2, 3 u / 2, 15 u / 2: between 0 and the least value, and up to e = 1.
        DOC.inMode(0, "multiply(1, 47)", 0, 1);
        DOC.inMode(0, "multiply(1, 48)", 0, 1);
        DOC.inMode(0, "multiply(1, 49)", 1, 1);
        DOC.inMode(0, "multiply(129, 47)", 128, 1);
        DOC.inMode(0, "multiply(129, 48)", 128, 1);
        DOC.inMode(0, "multiply(129, 49)", 129, 1);
        DOC.inMode(0, "multiply(3, 48)", 2, 1);
        DOC.inMode(0, "multiply(15, 48)", 8, 1);
        DOC.inMode(0, "together(1, 47, 8)", 8, 1);
        DOC.inMode(0, "together(1, 48, 8)", 8, 1);
        DOC.inMode(0, "together(1, 49, 8)", 9, 1);
        DOC.inMode(0, "together(1, 48, 9)", 10, 1);
    }

    private static void roundingInMode1() {
        DOC.sentence("In mode 1 the code of the value with the greatest size not above that of x, of"
                + " the same sign.");
        DOC.inMode(1, "from(240)", 119, 0);
        DOC.inMode(1, "from(255)", 119, 1);
        DOC.inMode(1, "from(256)", 119, 3);
        DOC.inMode(1, "from(1000000)", 119, 3);
        DOC.inMode(1, "from(-240)", 247, 0);
        DOC.inMode(1, "from(-255)", 247, 1);
        DOC.inMode(1, "from(-256)", 247, 3);
        DOC.inMode(1, "from(-1000000)", 247, 3);
        // u times u, the least that can be, away from 240, 8 u, u and 0.
        DOC.inMode(1, "together(1, 1, 119)", 119, 1);
        DOC.inMode(1, "together(1, 129, 119)", 118, 1);
        DOC.inMode(1, "together(1, 1, 8)", 8, 1);
        DOC.inMode(1, "together(1, 129, 8)", 7, 1);
        DOC.inMode(1, "together(1, 129, 136)", 136, 1);
        DOC.inMode(1, "together(1, 1, 136)", 135, 1);
        DOC.inMode(1, "together(1, 129, 1)", 0, 1);
        DOC.inMode(1, "together(1, 1, 129)", 128, 1);
        DOC.inMode(1, "multiply(1, 1)", 0, 1);
        DOC.inMode(1, "multiply(129, 1)", 128, 1);
    }

    private static void roundingInMode2() {
        DOC.sentence("In mode 2 the code of the least value that is not below x, 120 if there is"
                + " none.");
        DOC.inMode(2, "from(240)", 119, 0);
        DOC.inMode(2, "together(1, 129, 119)", 119, 1);
        DOC.inMode(2, "together(1, 1, 119)", 120, 3);
        DOC.inMode(2, "from(241)", 120, 3);
        DOC.inMode(2, "from(1000000)", 120, 3);
        DOC.inMode(2, "from(-240)", 247, 0);
        DOC.inMode(2, "together(1, 1, 247)", 246, 1);
        DOC.inMode(2, "together(1, 129, 247)", 247, 1);
        DOC.inMode(2, "from(-255)", 247, 1);
        DOC.inMode(2, "from(-1000000)", 247, 3);
        DOC.inMode(2, "together(1, 1, 7)", 8, 1);
        DOC.inMode(2, "together(1, 129, 136)", 136, 1);
        DOC.inMode(2, "multiply(1, 1)", 1, 1);
        DOC.inMode(2, "multiply(129, 1)", 128, 1);
        DOC.inMode(2, "together(1, 1, 129)", 128, 1);
    }

    private static void roundingInMode3() {
        DOC.sentence("In mode 3 the code of the greatest value not above x, 248 if there is none.");
        DOC.inMode(3, "from(-240)", 247, 0);
        DOC.inMode(3, "together(1, 1, 247)", 247, 1);
        DOC.inMode(3, "together(1, 129, 247)", 248, 3);
        DOC.inMode(3, "from(-241)", 248, 3);
        DOC.inMode(3, "from(-1000000)", 248, 3);
        DOC.inMode(3, "from(240)", 119, 0);
        DOC.inMode(3, "together(1, 129, 119)", 118, 1);
        DOC.inMode(3, "together(1, 1, 119)", 119, 1);
        DOC.inMode(3, "from(255)", 119, 1);
        DOC.inMode(3, "from(1000000)", 119, 3);
        DOC.inMode(3, "together(1, 129, 135)", 136, 1);
        DOC.inMode(3, "together(1, 1, 8)", 8, 1);
        DOC.inMode(3, "multiply(129, 1)", 129, 1);
        DOC.inMode(3, "multiply(1, 1)", 0, 1);
        DOC.inMode(3, "together(1, 129, 1)", 0, 1);
    }

    private static void roundingToZero() {
        DOC.sentence("Where the value is 0 the sign of the code is that of x.");
        for (String tiny : new String[] {"multiply(1, 1)", "multiply(129, 129)", "divide(1, 119)",
                "divide(129, 247)", "together(1, 1, 0)", "together(1, 1, 128)"}) {
            DOC.byMode(tiny, 0, 1, 0, 1, 1, 1, 0, 1);
        }
        for (String tiny : new String[] {"multiply(129, 1)", "multiply(1, 129)", "divide(129, 119)",
                "divide(1, 247)", "together(1, 129, 0)", "together(1, 129, 128)"}) {
            DOC.byMode(tiny, 128, 1, 128, 1, 128, 1, 129, 1);
        }
    }

    private static void notesAreCollected() {
        DOC.sentence("NOTES are collected until they are cleared");
        DOC.run("add(56, 1) = 56", "notes() = 1", "add(56, 1) = 56", "notes() = 1",
                "divide(56, 0) = 120", "notes() = 9", "divide(184, 0) = 248", "notes() = 9",
                "root(184) = 124", "notes() = 13", "multiply(0, 120) = 124", "notes() = 13",
                "from(300) = 120", "notes() = 15", "from(300) = 120", "notes() = 15",
                "add(56, 56) = 64", "add(125, 0) = 124", "add(256, 0) = -1", "mode(0) = 0",
                "store(0) = 0", "notes() = 15", "clear() = 15", "notes() = 0",
                "divide(56, 0) = 120", "notes() = 8");
    }

    private static void lost() {
        DOC.sentence("1 (LOST) if a finite number was rounded and its code is infinite or has"
                + " another value");
        DOC.inAllModes("from(240)", 119, 0);
        DOC.byMode("together(1, 1, 119)", 119, 1, 119, 1, 120, 3, 119, 1);
        // 256 is taken as a value, but its code is infinite.
        DOC.byMode("multiply(88, 88)", 120, 3, 119, 3, 120, 3, 119, 3);
        DOC.byMode("multiply(88, 216)", 248, 3, 247, 3, 247, 3, 248, 3);
        DOC.byMode("multiply(1, 1)", 0, 1, 0, 1, 1, 1, 0, 1);
        DOC.inAllModes("multiply(1, 64)", 2, 0);
        // No finite number is rounded here.
        DOC.inAllModes("add(120, 56)", 120, 0);
        DOC.inAllModes("multiply(248, 56)", 248, 0);
        DOC.inAllModes("root(120)", 120, 0);
        DOC.inAllModes("divide(56, 120)", 0, 0);
        DOC.inAllModes("divide(56, 0)", 120, 8);
    }

    private static void tooGreat() {
        DOC.sentence("2 (TOO GREAT) if a finite number was rounded whose size is such that, if there"
                + " were further values (8 + m) 2^k u with greater k, rounding it among them would"
                + " give one of a size above 240");
        DOC.inAllModes("from(240)", 119, 0);
        DOC.inAllModes("from(-240)", 247, 0);
        DOC.byMode("together(1, 1, 119)", 119, 1, 119, 1, 120, 3, 119, 1);
        DOC.byMode("together(1, 129, 247)", 247, 1, 247, 1, 247, 1, 248, 3);
        DOC.byMode("together(17, 118, 119)", 119, 1, 119, 1, 120, 3, 119, 1);
        DOC.byMode("together(17, 246, 247)", 247, 1, 247, 1, 247, 1, 248, 3);
        DOC.byMode("from(248)", 120, 3, 119, 1, 120, 3, 119, 1);
        DOC.byMode("from(-248)", 248, 3, 247, 1, 247, 1, 248, 3);
        // 256 less u, 256, 256 and u more: from 256 on it is above 240 even if cut down.
        DOC.byMode("together(64, 112, 129)", 120, 3, 119, 1, 120, 3, 119, 1);
        DOC.byMode("together(64, 240, 1)", 248, 3, 247, 1, 247, 1, 248, 3);
        DOC.byMode("from(256)", 120, 3, 119, 3, 120, 3, 119, 3);
        DOC.byMode("from(-256)", 248, 3, 247, 3, 247, 3, 248, 3);
        DOC.byMode("together(64, 112, 1)", 120, 3, 119, 3, 120, 3, 119, 3);
        DOC.byMode("together(64, 240, 129)", 248, 3, 247, 3, 247, 3, 248, 3);
        // Infinite operands are not finite numbers rounded.
        DOC.inAllModes("add(120, 119)", 120, 0);
        DOC.inAllModes("together(119, 119, 120)", 120, 0);
        DOC.inAllModes("together(119, 119, 248)", 248, 0);
    }

    private static void senselessAndByZero() {
        DOC.sentence("4 (SENSELESS) and 8 (BY ZERO) where said.");
        DOC.inAllModes("multiply(0, 120)", 124, 4);
        DOC.inAllModes("divide(0, 0)", 124, 4);
        DOC.inAllModes("divide(1, 0)", 120, 8);
        DOC.inAllModes("divide(120, 0)", 120, 0);
        DOC.inAllModes("multiply(1, 0)", 0, 0);
    }

    private static void noneNumberIsAlways124() {
        DOC.sentence("A result that is the none-number is always the code 124.");
        for (int none : NONE_NUMBERS) {
            for (String call : callsOn(none, 56)) {
                DOC.run(call + " = 124");
            }
            DOC.run(Calls.text("store", none) + " = 0", "pile(56) = 124", "store(0) = 124");
            DOC.run(Calls.text("store", none) + " = 0", "pileProduct(56, 56) = 124",
                    "store(0) = 124");
        }
        for (String call : senselessCalls()) {
            DOC.run(call + " = 124");
        }
    }

    /** Every operation with the none-number in each place, and the other code elsewhere. */
    private static List<String> callsOn(int none, int other) {
        List<String> calls = new ArrayList<>();
        for (String name : new String[] {"add", "subtract", "multiply", "divide", "pileProduct"}) {
            calls.add(Calls.text(name, none, other));
            calls.add(Calls.text(name, other, none));
        }
        calls.add(Calls.text("root", none));
        calls.add(Calls.text("pile", none));
        calls.add(Calls.text("together", none, other, other));
        calls.add(Calls.text("together", other, none, other));
        calls.add(Calls.text("together", other, other, none));
        return calls;
    }

    private static void noneNumberOperand() {
        DOC.sentence("If an operand is a none-number the result is 124, with no note.");
        for (int none : NONE_NUMBERS) {
            for (int other : new int[] {0, 1, 56, 119, 120, 124, 128, 184, 248, 255}) {
                for (String call : callsOn(none, other)) {
                    DOC.inAllModes(call, 124, 0);
                }
            }
            // Without the none-number the product or the sum would be senseless.
            DOC.inAllModes(Calls.text("together", 120, 0, none), 124, 0);
            DOC.inAllModes(Calls.text("together", 128, 248, none), 124, 0);
            DOC.inAllModes(Calls.text("together", 120, none, 248), 124, 0);
            DOC.run(Calls.text("store", none) + " = 0", "pile(120) = 124", "notes() = 0");
            DOC.run(Calls.text("store", none) + " = 0", "pileProduct(0, 248) = 124", "notes() = 0");
        }
    }

    private static String[] senselessCalls() {
        return new String[] {"add(120, 248)", "add(248, 120)", "subtract(120, 120)",
            "subtract(248, 248)", "multiply(120, 0)", "multiply(128, 120)", "divide(0, 128)",
            "divide(120, 248)", "root(129)", "root(247)", "root(248)", "together(120, 0, 56)",
            "together(0, 248, 120)", "together(120, 56, 248)", "together(184, 120, 120)",
            "pileProduct(120, 0)", "pileProduct(128, 248)"};
    }

    private static void senselessOperations() {
        DOC.sentence("Otherwise senseless operations have the result 124 and the note 4.");
        for (String call : senselessCalls()) {
            DOC.inAllModes(call, 124, 4);
        }
        DOC.run("store(120) = 0", "pile(248) = 124", "notes() = 4");
        DOC.run("store(248) = 0", "pileProduct(120, 56) = 124", "notes() = 4");
    }

    private static void noCallThrows() {
        DOC.sentence("No call ever throws.");
        int[] far = {Integer.MIN_VALUE, Integer.MIN_VALUE + 1, -1000001, -256, -1, 0, 1, 8, 56, 119,
            120, 124, 128, 129, 247, 248, 255, 256, 1000001, Integer.MAX_VALUE};
        for (String name : Calls.WITH_ARGUMENTS) {
            for (int a : far) {
                for (int b : far) {
                    for (int c : far) {
                        doesNotThrow(name, a, b, c);
                    }
                }
            }
        }
    }

    private static void doesNotThrow(String name, int a, int b, int c) {
        int[] all = {a, b, c};
        int[] args = new int[Calls.places(name)];
        System.arraycopy(all, 0, args, 0, args.length);
        String call = Calls.text(name, args);
        int thrown = 0;
        for (int mode = 0; mode < 4; mode++) {
            TinyFloats x = Checks.inMode(mode);
            try {
                Calls.ask(x, call);
                Calls.ask(x, call);
            } catch (RuntimeException | StackOverflowError e) {
                thrown++;
            }
        }
        DOC.due("the number of times that " + call + " has thrown:", thrown, 0);
    }

    private static void refusedCalls() {
        DOC.sentence("A refused call answers the code named and changes nothing.");
        for (String name : Calls.WITH_ARGUMENTS) {
            for (int far : new int[] {-1000001, 1000001, Integer.MIN_VALUE, Integer.MAX_VALUE}) {
                int[] args = new int[Calls.places(name)];
                args[args.length - 1] = far;
                DOC.refused(Calls.text(name, args), name.equals("whole") ? 9999 : -1);
            }
        }
    }

    private static void badArg() {
        DOC.sentence("`BAD_ARG = -1`: An argument is out of its range.");
        DOC.due("BAD_ARG", TinyFloats.BAD_ARG, -1);
    }
}
