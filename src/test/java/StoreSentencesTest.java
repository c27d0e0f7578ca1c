/** The sentences of promises 14 to 16: pile, pileProduct, store. */
public final class StoreSentencesTest {
    private static final Sentences DOC = new Sentences("StoreSentencesTest");

    public static void main(String[] args) {
        DOC.under("Promise 14");
        pileAdds();
        pileRefused();
        pileAnswers();
        DOC.under("Promise 15");
        pileProductAdds();
        pileProductRefused();
        pileProductAnswers();
        DOC.under("Promise 16");
        storeBecomes();
        storeRefused();
        storeBefore();
        DOC.finish();
    }

    private static void pileAdds() {
        DOC.sentence("The store becomes the sum of the store and a (as add).");
        // 16 is the greatest sum of ones that mode 0 reaches: 17 is midway, and 16 has the even code.
        DOC.run("store(87) = 0", "pile(56) = 88", "notes() = 0", "pile(56) = 88", "notes() = 1",
                "mode(2) = 0", "pile(56) = 89", "store(0) = 89");
        // Full: beyond 240 it is infinite and stays so, whatever finite numbers follow.
        DOC.run("store(119) = 0", "pile(1) = 119", "pile(80) = 120", "notes() = 3", "clear() = 3",
                "pile(247) = 120", "pile(247) = 120", "pile(120) = 120", "notes() = 0",
                "pile(248) = 124", "notes() = 4", "clear() = 4", "pile(56) = 124", "pile(120) = 124",
                "notes() = 0", "store(0) = 124");
        DOC.run("mode(1) = 0", "store(247) = 0", "pile(247) = 247", "notes() = 3", "store(0) = 247");
        // Empty: which zero is left.
        DOC.run("pile(128) = 0", "store(128) = 0", "pile(128) = 128", "pile(0) = 0", "pile(0) = 0",
                "notes() = 0");
        DOC.run("mode(3) = 0", "pile(0) = 0", "pile(128) = 128", "pile(0) = 128", "pile(1) = 1",
                "pile(129) = 128", "store(0) = 128", "notes() = 0");
        DOC.run("store(125) = 0", "pile(248) = 124", "notes() = 0", "store(0) = 124");
    }

    private static void pileRefused() {
        DOC.sentence("BAD_ARG if a is not 0 to 255.");
        DOC.refusesWhatIsNoCode("pile", -1);
        DOC.takesTheOuterCodes("pile");
    }

    private static void pileAnswers() {
        DOC.sentence("Otherwise the store.");
        DOC.run("pile(56) = 56", "store(60) = 56", "pile(56) = 66", "store(0) = 66");
        DOC.run("store(60) = 0", "pile(188) = 0", "store(0) = 0");
    }

    private static void pileProductAdds() {
        DOC.sentence("The store becomes together(a, b, store).");
        DOC.run("store(185) = 0", "pileProduct(57, 57) = 33", "notes() = 0", "store(0) = 33");
        DOC.run("store(216) = 0", "pileProduct(88, 88) = 119", "notes() = 0",
                "pileProduct(1, 1) = 119", "notes() = 1", "mode(2) = 0", "pileProduct(1, 1) = 120",
                "notes() = 3", "clear() = 3", "pileProduct(119, 247) = 120", "notes() = 0",
                "pileProduct(248, 56) = 124", "notes() = 4", "clear() = 4",
                "pileProduct(120, 0) = 124", "notes() = 0", "store(0) = 124");
        // The sign of an empty store counts, and so does that of a product 0.
        DOC.run("pileProduct(0, 184) = 0", "store(128) = 0", "pileProduct(0, 184) = 128",
                "pileProduct(0, 56) = 0", "store(56) = 0", "pileProduct(184, 56) = 0",
                "notes() = 0");
        DOC.run("mode(3) = 0", "pileProduct(0, 56) = 0", "pileProduct(128, 56) = 128",
                "pileProduct(0, 56) = 128", "notes() = 0");
        DOC.run("store(9) = 0", "pileProduct(1, 48) = 10", "notes() = 1");
        DOC.run("store(56) = 0", "pileProduct(0, 248) = 124", "notes() = 4", "store(0) = 124");
        DOC.run("store(253) = 0", "pileProduct(120, 0) = 124", "notes() = 0", "store(0) = 124");
    }

    private static void pileProductRefused() {
        DOC.sentence("BAD_ARG if a or b is not 0 to 255.");
        DOC.refusesWhatIsNoCode("pileProduct", -1);
        DOC.takesTheOuterCodes("pileProduct");
    }

    private static void pileProductAnswers() {
        DOC.sentence("Otherwise the store.");
        DOC.run("pileProduct(60, 64) = 68", "store(56) = 68", "pileProduct(60, 64) = 72",
                "store(0) = 72");
    }

    private static void storeBecomes() {
        DOC.sentence("The store becomes a.");
        for (int code = 0; code < 256; code++) {
            DOC.run(Calls.text("store", code) + " = 0", "notes() = 0", "store(0) = " + code);
        }
        DOC.run("store(56) = 0", "pile(56) = 64", "pileProduct(56, 56) = 68");
        DOC.run("mode(2) = 0", "divide(1, 0) = 120", "store(255) = 0", "mode(0) = 2", "notes() = 8");
    }

    private static void storeRefused() {
        DOC.sentence("BAD_ARG if a is not 0 to 255.");
        DOC.refusesWhatIsNoCode("store", -1);
        DOC.takesTheOuterCodes("store");
    }

    private static void storeBefore() {
        DOC.sentence("Otherwise the store before.");
        DOC.run("store(255) = 0", "store(128) = 255", "store(128) = 128", "store(0) = 128",
                "store(119) = 0", "pile(119) = 120", "store(1) = 120", "store(1) = 1");
    }
}
