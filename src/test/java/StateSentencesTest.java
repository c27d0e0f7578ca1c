/** The sentences of promises 1 to 4: a new object, mode, notes, clear. */
public final class StateSentencesTest {
    private static final Sentences DOC = new Sentences("StateSentencesTest");

    public static void main(String[] args) {
        DOC.under("Promise 1");
        aNewObject();
        DOC.under("Promise 2");
        theModeBecomes();
        modeRefused();
        modeBefore();
        DOC.under("Promise 3");
        sumOfTheNotes();
        DOC.under("Promise 4");
        clearing();
        sumBefore();
        DOC.under("Not promised");
        noOtherChanges();
        DOC.finish();
    }

    private static void aNewObject() {
        DOC.sentence("Mode 0, no notes, the store holds code 0.");
        DOC.run("mode(3) = 0");
        DOC.run("from(17) = 88", "from(-17) = 216", "from(19) = 90", "from(-19) = 218");
        DOC.run("notes() = 0");
        DOC.run("clear() = 0");
        DOC.run("store(56) = 0");
        DOC.run("pile(128) = 0");
        DOC.run("pile(1) = 1");
        // What one object holds isn't another's.
        TinyFloats changed = Checks.inMode(3);
        changed.store(99);
        changed.multiply(0, 120);
        DOC.run("mode(0) = 0", "notes() = 0", "store(0) = 0");
    }

    private static void theModeBecomes() {
        DOC.sentence("The mode becomes m.");
        // 17 lies between 16 and 18.
        DOC.run("mode(3) = 0", "from(17) = 88", "from(-17) = 217",
                "mode(2) = 3", "from(17) = 89", "from(-17) = 216",
                "mode(1) = 2", "from(19) = 89", "from(-19) = 217",
                "mode(0) = 1", "from(19) = 90", "from(-19) = 218");
        // Nothing else is changed by it.
        DOC.run("store(77) = 0", "divide(1, 0) = 120", "mode(2) = 0", "mode(2) = 2", "notes() = 8",
                "store(0) = 77");
    }

    private static void modeRefused() {
        DOC.sentence("BAD_ARG if m is not 0 to 3.");
        for (int bad : new int[] {-1, 4, 5, -4, 256, 259, Integer.MIN_VALUE, Integer.MAX_VALUE}) {
            DOC.refused(Calls.text("mode", bad), -1);
        }
        DOC.run("mode(3) = 0", "mode(0) = 3");
    }

    private static void modeBefore() {
        DOC.sentence("Otherwise the mode before.");
        for (int before = 0; before < 4; before++) {
            for (int m = 0; m < 4; m++) {
                DOC.run(Calls.text("mode", before) + " = 0", Calls.text("mode", m) + " = " + before,
                        "mode(0) = " + m);
            }
        }
    }

    private static void sumOfTheNotes() {
        DOC.sentence("The sum of the notes.");
        DOC.run("notes() = 0", "notes() = 0");
        DOC.run("add(56, 1) = 56", "notes() = 1", "notes() = 1");
        DOC.run("from(256) = 120", "notes() = 3");
        DOC.run("root(184) = 124", "notes() = 4");
        DOC.run("divide(1, 0) = 120", "notes() = 8");
        DOC.run("divide(1, 0) = 120", "root(184) = 124", "notes() = 12");
        DOC.run("from(256) = 120", "divide(1, 0) = 120", "root(184) = 124", "notes() = 15",
                "notes() = 15", "mode(0) = 0", "store(0) = 0");
    }

    private static void clearing() {
        DOC.sentence("Clears the notes.");
        DOC.run("mode(2) = 0", "store(77) = 0", "from(256) = 120", "divide(1, 0) = 120",
                "root(184) = 124", "clear() = 15", "notes() = 0", "mode(0) = 2", "store(0) = 77");
        DOC.run("clear() = 0", "divide(1, 0) = 120", "notes() = 8");
    }

    private static void sumBefore() {
        DOC.sentence("Answers their sum before.");
        DOC.run("clear() = 0", "clear() = 0");
        DOC.run("add(56, 1) = 56", "clear() = 1", "clear() = 0");
        DOC.run("from(256) = 120", "clear() = 3", "root(184) = 124", "clear() = 4",
                "divide(1, 0) = 120", "clear() = 8", "clear() = 0");
    }

    private static void noOtherChanges() {
        DOC.sentence("Nothing is promised beyond the answers and state changes described above");
        DOC.run("mode(3) = 0", "store(61) = 0", "add(119, 88) = 119", "subtract(1, 1) = 128",
                "multiply(60, 64) = 68", "divide(1, 0) = 120", "root(72) = 64",
                "together(57, 57, 185) = 33", "compare(60, 61) = -1", "from(-1) = 184",
                "whole(60) = 1", "notes() = 11", "clear() = 11", "store(0) = 61", "mode(0) = 3");
    }
}
