/** The sentences of promise 11: compare. */
public final class CompareSentencesTest {
    private static final Sentences DOC = new Sentences("CompareSentencesTest");

    public static void main(String[] args) {
        DOC.under("Promise 11");
        byValue();
        infiniteOnes();
        noneNumbers();
        compareRefused();
        DOC.finish();
    }

    private static void bothWays(int less, int greater) {
        DOC.inAllModes(Calls.text("compare", less, greater), -1, 0);
        DOC.inAllModes(Calls.text("compare", greater, less), 1, 0);
    }

    private static void byValue() {
        DOC.sentence("-1, 0 or 1 as the value of a is less than, the same as or greater than that of"
                + " b");
        DOC.inAllModes("compare(0, 128)", 0, 0);
        DOC.inAllModes("compare(128, 0)", 0, 0);
        for (int code = 0; code < 119; code++) {
            DOC.inAllModes(Calls.text("compare", code, code), 0, 0);
            bothWays(code, code + 1);
            bothWays(code + 129, code + 128);
        }
        bothWays(128, 1);
        bothWays(129, 0);
        bothWays(129, 1);
        bothWays(247, 119);
    }

    private static void infiniteOnes() {
        DOC.sentence("(infinite ones beyond all others)");
        DOC.inAllModes("compare(120, 120)", 0, 0);
        DOC.inAllModes("compare(248, 248)", 0, 0);
        bothWays(248, 120);
        for (int size = 0; size < 120; size++) {
            bothWays(size, 120);
            bothWays(size + 128, 120);
            bothWays(248, size);
            bothWays(248, size + 128);
        }
    }

    private static void noneNumbers() {
        DOC.sentence("2 if one is a none-number.");
        for (int none : new int[] {121, 124, 127, 249, 252, 255}) {
            for (int other : new int[] {0, 56, 119, 120, 121, 127, 128, 247, 248, 255}) {
                DOC.inAllModes(Calls.text("compare", none, other), 2, 0);
                DOC.inAllModes(Calls.text("compare", other, none), 2, 0);
            }
        }
    }

    private static void compareRefused() {
        DOC.sentence("BAD_ARG as for add (-1 too; ask with care).");
        DOC.refusesWhatIsNoCode("compare", -1);
        DOC.takesTheOuterCodes("compare");
    }
}
