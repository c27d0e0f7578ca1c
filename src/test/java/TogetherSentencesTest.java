/** The sentences of promise 10: together. */
public final class TogetherSentencesTest {
    private static final Sentences DOC = new Sentences("TogetherSentencesTest");

    public static void main(String[] args) {
        DOC.under("Promise 10");
        oneRounding();
        productsThatAreZero();
        infiniteProducts();
        senselessOnes();
        togetherRefused();
        DOC.finish();
    }

    private static void oneRounding() {
        DOC.sentence("a times b plus c with one rounding");
        DOC.inAllModes("together(60, 64, 56)", 72, 0);
        DOC.inAllModes("together(60, 192, 56)", 192, 0);
        // 1.125 times 1.125 is 1.265625, which has no code; less 1.125 it is 9 / 64.
        DOC.inAllModes("together(57, 57, 185)", 33, 0);
        DOC.inAllModes("together(57, 185, 57)", 161, 0);
        // The product alone is too great: 256, and 57600.
        DOC.inAllModes("together(88, 88, 216)", 119, 0);
        DOC.inAllModes("together(216, 88, 88)", 247, 0);
        DOC.byMode("together(119, 119, 247)", 120, 3, 119, 3, 120, 3, 119, 3);
        // The product alone is too small: u / 2, and u times u.
        DOC.byMode("together(1, 48, 9)", 10, 1, 9, 1, 10, 1, 9, 1);
        DOC.byMode("together(129, 48, 9)", 8, 1, 8, 1, 9, 1, 8, 1);
        DOC.byMode("together(1, 1, 119)", 119, 1, 119, 1, 120, 3, 119, 1);
        DOC.byMode("together(1, 129, 119)", 119, 1, 118, 1, 119, 1, 118, 1);
        DOC.byMode("together(1, 129, 247)", 247, 1, 247, 1, 247, 1, 248, 3);
        DOC.byMode("together(1, 1, 129)", 129, 1, 128, 1, 128, 1, 129, 1);
        DOC.byMode("together(1, 129, 1)", 1, 1, 0, 1, 1, 1, 0, 1);
    }

    private static void productsThatAreZero() {
        DOC.sentence("as add of the exact product (with its sign, also where it is 0");
        DOC.inAllModes("together(0, 56, 0)", 0, 0);
        DOC.inAllModes("together(128, 184, 0)", 0, 0);
        DOC.inAllModes("together(128, 56, 128)", 128, 0);
        DOC.inAllModes("together(0, 184, 128)", 128, 0);
        DOC.inAllModes("together(0, 128, 128)", 128, 0);
        DOC.zeroByMode("together(0, 56, 128)");
        DOC.zeroByMode("together(184, 128, 128)");
        DOC.zeroByMode("together(128, 56, 0)");
        DOC.zeroByMode("together(119, 128, 0)");
        for (int size : Sentences.SIZES_AT_EDGES) {
            DOC.inAllModes(Calls.text("together", 0, 119, size), size, 0);
            DOC.inAllModes(Calls.text("together", 128, 119, size + 128), size + 128, 0);
            DOC.inAllModes(Calls.text("together", 128, 0, size), size, 0);
            DOC.zeroByMode(Calls.text("together", size, 56, size + 128));
            DOC.zeroByMode(Calls.text("together", 184, size, size));
        }
        // A product that isn't 0, however small, has no zero's rule.
        DOC.byMode("together(1, 1, 128)", 0, 1, 0, 1, 1, 1, 0, 1);
        DOC.byMode("together(1, 129, 0)", 128, 1, 128, 1, 128, 1, 129, 1);
    }

    private static void infiniteProducts() {
        DOC.sentence("infinite where it is that) and c");
        for (int size : Sentences.SIZES_AT_EDGES) {
            DOC.inAllModes(Calls.text("together", 120, size, 247), 120, 0);
            DOC.inAllModes(Calls.text("together", size, 248, 119), 248, 0);
            DOC.inAllModes(Calls.text("together", 248, size + 128, 120), 120, 0);
            DOC.inAllModes(Calls.text("together", size + 128, 120, 248), 248, 0);
        }
        DOC.inAllModes("together(248, 248, 128)", 120, 0);
        DOC.inAllModes("together(120, 248, 0)", 248, 0);
        // A finite product is never infinite, so c decides, with no note.
        DOC.inAllModes("together(119, 119, 248)", 248, 0);
        DOC.inAllModes("together(119, 247, 120)", 120, 0);
        DOC.inAllModes("together(0, 128, 120)", 120, 0);
        DOC.inAllModes("together(1, 1, 248)", 248, 0);
    }

    private static void senselessOnes() {
        DOC.sentence("senseless where the product or that sum is.");
        for (int c : new int[] {0, 1, 119, 120, 128, 184, 248}) {
            DOC.inAllModes(Calls.text("together", 120, 0, c), 124, 4);
            DOC.inAllModes(Calls.text("together", 0, 248, c), 124, 4);
            DOC.inAllModes(Calls.text("together", 248, 128, c), 124, 4);
            DOC.inAllModes(Calls.text("together", 128, 120, c), 124, 4);
        }
        for (int size : Sentences.SIZES_AT_EDGES) {
            DOC.inAllModes(Calls.text("together", 120, size, 248), 124, 4);
            DOC.inAllModes(Calls.text("together", size, 248, 120), 124, 4);
            DOC.inAllModes(Calls.text("together", 248, size + 128, 248), 124, 4);
            DOC.inAllModes(Calls.text("together", size + 128, 120, 120), 124, 4);
        }
        DOC.inAllModes("together(120, 120, 248)", 124, 4);
        DOC.inAllModes("together(120, 248, 120)", 124, 4);
        DOC.inAllModes("together(120, 0, 124)", 124, 0);
    }

    private static void togetherRefused() {
        DOC.sentence("BAD_ARG if one is not 0 to 255.");
        DOC.refusesWhatIsNoCode("together", -1);
        DOC.takesTheOuterCodes("together");
    }
}
