/** The sentences of promises 5 and 6: add and subtract. */
public final class SumSentencesTest {
    private static final Sentences DOC = new Sentences("SumSentencesTest");

    public static void main(String[] args) {
        DOC.under("Promise 5");
        theSum();
        infiniteSums();
        sumsThatAreZero();
        roundedSums();
        addRefused();
        DOC.under("Promise 6");
        signTurned();
        subtractRefused();
        DOC.finish();
    }

    private static void theSum() {
        DOC.sentence("The sum.");
        DOC.inAllModes("add(56, 56)", 64, 0);
        DOC.inAllModes("add(60, 184)", 48, 0);
        DOC.inAllModes("add(184, 184)", 192, 0);
        DOC.inAllModes("add(0, 1)", 1, 0);
        DOC.inAllModes("add(128, 119)", 119, 0);
        DOC.inAllModes("add(247, 0)", 247, 0);
        DOC.inAllModes("add(129, 128)", 129, 0);
    }

    private static void infiniteSums() {
        DOC.sentence("Infinite plus infinite of other sign is senseless; else, with an infinite"
                + " operand, it is that one.");
        DOC.inAllModes("add(120, 248)", 124, 4);
        DOC.inAllModes("add(248, 120)", 124, 4);
        DOC.inAllModes("add(120, 120)", 120, 0);
        DOC.inAllModes("add(248, 248)", 248, 0);
        for (int other : new int[] {0, 1, 8, 56, 119, 128, 129, 136, 184, 247}) {
            DOC.inAllModes(Calls.text("add", 120, other), 120, 0);
            DOC.inAllModes(Calls.text("add", other, 120), 120, 0);
            DOC.inAllModes(Calls.text("add", 248, other), 248, 0);
            DOC.inAllModes(Calls.text("add", other, 248), 248, 0);
        }
    }

    private static void sumsThatAreZero() {
        DOC.sentence("If the exact sum is 0: with both zeros of the same sign that zero; else"
                + " positive zero, in mode 3 negative zero.");
        DOC.inAllModes("add(0, 0)", 0, 0);
        DOC.inAllModes("add(128, 128)", 128, 0);
        for (int size = 0; size < 120; size++) {
            DOC.zeroByMode(Calls.text("add", size, size + 128));
            DOC.zeroByMode(Calls.text("add", size + 128, size));
        }
    }

    private static void roundedSums() {
        DOC.sentence("Otherwise the rounded sum.");
        // 1.5 and 1.125 are 2.625, midway between 2.5 and 2.75.
        DOC.byMode("add(60, 57)", 66, 1, 66, 1, 67, 1, 66, 1);
        DOC.byMode("add(188, 185)", 194, 1, 194, 1, 194, 1, 195, 1);
        // u away from 240 and from 16 u, where the distance of values doubles.
        DOC.byMode("add(119, 1)", 119, 1, 119, 1, 120, 3, 119, 1);
        DOC.byMode("add(119, 129)", 119, 1, 118, 1, 119, 1, 118, 1);
        DOC.byMode("add(129, 119)", 119, 1, 118, 1, 119, 1, 118, 1);
        DOC.byMode("add(247, 129)", 247, 1, 247, 1, 247, 1, 248, 3);
        DOC.byMode("add(1, 247)", 247, 1, 246, 1, 246, 1, 247, 1);
        DOC.inAllModes("add(15, 1)", 16, 0);
        DOC.byMode("add(16, 1)", 16, 1, 16, 1, 17, 1, 16, 1);
        // 248 is midway between 240 and 256; 256 is too great in every mode.
        DOC.byMode("add(119, 80)", 120, 3, 119, 1, 120, 3, 119, 1);
        DOC.byMode("add(247, 208)", 248, 3, 247, 1, 247, 1, 248, 3);
        DOC.byMode("add(119, 88)", 120, 3, 119, 3, 120, 3, 119, 3);
        DOC.byMode("add(247, 247)", 248, 3, 247, 3, 247, 3, 248, 3);
        // The least sums are exact.
        DOC.inAllModes("add(1, 1)", 2, 0);
        DOC.inAllModes("add(7, 1)", 8, 0);
        DOC.inAllModes("add(8, 135)", 1, 0);
        DOC.inAllModes("add(136, 7)", 129, 0);
    }

    private static void addRefused() {
        DOC.sentence("BAD_ARG if a or b is not 0 to 255.");
        DOC.refusesWhatIsNoCode("add", -1);
        DOC.takesTheOuterCodes("add");
    }

    private static void signTurned() {
        DOC.sentence("The sum of a and b with the sign of b turned (not if it is a none-number).");
        DOC.inAllModes("subtract(60, 56)", 48, 0);
        DOC.inAllModes("subtract(56, 184)", 64, 0);
        DOC.inAllModes("subtract(184, 56)", 192, 0);
        // Zeros: only negative less positive and positive less negative have one sign.
        DOC.inAllModes("subtract(0, 128)", 0, 0);
        DOC.inAllModes("subtract(128, 0)", 128, 0);
        for (int size = 0; size < 120; size++) {
            DOC.zeroByMode(Calls.text("subtract", size, size));
            DOC.zeroByMode(Calls.text("subtract", size + 128, size + 128));
        }
        DOC.inAllModes("subtract(120, 120)", 124, 4);
        DOC.inAllModes("subtract(248, 248)", 124, 4);
        DOC.inAllModes("subtract(120, 248)", 120, 0);
        DOC.inAllModes("subtract(248, 120)", 248, 0);
        for (int other : new int[] {0, 1, 119, 128, 129, 247}) {
            DOC.inAllModes(Calls.text("subtract", other, 120), 248, 0);
            DOC.inAllModes(Calls.text("subtract", other, 248), 120, 0);
            DOC.inAllModes(Calls.text("subtract", 120, other), 120, 0);
            DOC.inAllModes(Calls.text("subtract", 248, other), 248, 0);
        }
        DOC.byMode("subtract(119, 208)", 120, 3, 119, 1, 120, 3, 119, 1);
        DOC.byMode("subtract(247, 80)", 248, 3, 247, 1, 247, 1, 248, 3);
        DOC.byMode("subtract(119, 1)", 119, 1, 118, 1, 119, 1, 118, 1);
        DOC.inAllModes("subtract(8, 7)", 1, 0);
        DOC.inAllModes("subtract(0, 1)", 129, 0);
        for (int fraction = 1; fraction < 8; fraction++) {
            DOC.inAllModes(Calls.text("subtract", 56, 120 + fraction), 124, 0);
            DOC.inAllModes(Calls.text("subtract", 248, 248 + fraction), 124, 0);
        }
    }

    private static void subtractRefused() {
        DOC.sentence("BAD_ARG as for add.");
        DOC.refusesWhatIsNoCode("subtract", -1);
        DOC.takesTheOuterCodes("subtract");
    }
}
