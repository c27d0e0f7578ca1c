/** The sentences of promise 9: root. */
public final class RootSentencesTest {
    private static final Sentences DOC = new Sentences("RootSentencesTest");

    public static void main(String[] args) {
        DOC.under("Promise 9");
        zerosAndInfinite();
        negativeOnes();
        roundedRoots();
        rootRefused();
        DOC.finish();
    }

    private static void zerosAndInfinite() {
        DOC.sentence("The root: of a zero it is that zero, of positive infinite that");
        DOC.inAllModes("root(0)", 0, 0);
        DOC.inAllModes("root(128)", 128, 0);
        DOC.inAllModes("root(120)", 120, 0);
    }

    private static void negativeOnes() {
        DOC.sentence("of anything else negative it is senseless");
        for (int code = 129; code <= 248; code++) {
            DOC.inAllModes(Calls.text("root", code), 124, 4);
        }
        // Neither a value nor negative: the none-number's own rule holds.
        DOC.inAllModes("root(249)", 124, 0);
        DOC.inAllModes("root(255)", 124, 0);
    }

    private static void roundedRoots() {
        DOC.sentence("else the number of which the square is the value, rounded.");
        DOC.inAllModes("root(56)", 56, 0);
        DOC.inAllModes("root(72)", 64, 0);
        DOC.inAllModes("root(40)", 48, 0);
        DOC.inAllModes("root(104)", 80, 0);
        // 2.25 is the square of 1.5, and 2 u = 1 / 256 that of 1 / 16.
        DOC.inAllModes("root(65)", 60, 0);
        DOC.inAllModes("root(2)", 24, 0);
        // The least value: the root of u is 22.6 u.
        DOC.byMode("root(1)", 19, 1, 19, 1, 20, 1, 19, 1);
        // The greatest e = 0 and the least e = 1: 59.9 u and 64 u.
        DOC.byMode("root(7)", 31, 1, 30, 1, 31, 1, 30, 1);
        DOC.inAllModes("root(8)", 32, 0);
        // The greatest value: the root of 240 is 15.49, nearer to 15 than to 16.
        DOC.byMode("root(119)", 87, 1, 87, 1, 88, 1, 87, 1);
        DOC.byMode("root(64)", 59, 1, 59, 1, 60, 1, 59, 1);
        // 0.96825 and 1.06066, just below the middles 0.96875 and 1.0625 on both sides of 1.
        DOC.byMode("root(55)", 55, 1, 55, 1, 56, 1, 55, 1);
        DOC.byMode("root(57)", 56, 1, 56, 1, 57, 1, 56, 1);
    }

    private static void rootRefused() {
        DOC.sentence("BAD_ARG if a is not 0 to 255.");
        DOC.refusesWhatIsNoCode("root", -1);
        DOC.takesTheOuterCodes("root");
    }
}
