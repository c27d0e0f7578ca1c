/** Promises 1 to 4: a new object, mode, notes, clear; and that a refused call changes nothing. */
public final class StateTest {
    private static final Checks CHECKS = new Checks("StateTest");
    private static final int[] NOT_CODES =
            {-1, 256, -128, 257, 384, 512, Integer.MIN_VALUE, Integer.MAX_VALUE};

    public static void main(String[] args) {
        aNewObject();
        modeAnswersTheOneBefore();
        modeIsUsedByLaterCalls();
        notesAreCollected();
        clearAnswersTheNotesBefore();
        operationsLeaveModeAndStore();
        refusedCallsChangeNothing();
        CHECKS.finish();
    }

    private static void aNewObject() {
        CHECKS.due("new: notes()", new TinyFloats().notes(), 0);
        CHECKS.due("new: clear()", new TinyFloats().clear(), 0);
        CHECKS.due("new: mode(3)", new TinyFloats().mode(3), 0);
        CHECKS.due("new: store(56)", new TinyFloats().store(56), 0);
        CHECKS.due("new: pile(128)", new TinyFloats().pile(128), 0);
        TinyFloats changed = Checks.inMode(3);
        changed.store(99);
        changed.divide(0, 0);
        CHECKS.due("new beside a changed one: mode(0)", new TinyFloats().mode(0), 0);
        CHECKS.due("new beside a changed one: notes()", new TinyFloats().notes(), 0);
        CHECKS.due("new beside a changed one: store(0)", new TinyFloats().store(0), 0);
    }

    private static void modeAnswersTheOneBefore() {
        for (int before = 0; before < 4; before++) {
            for (int m = 0; m < 4; m++) {
                TinyFloats x = Checks.inMode(before);
                CHECKS.due("mode(" + m + ") in mode " + before, x.mode(m), before);
                CHECKS.due("mode(0) in mode " + m, x.mode(0), m);
            }
            for (int m : new int[] {-1, 4, 5, -4, 256, Integer.MIN_VALUE, Integer.MAX_VALUE}) {
                TinyFloats x = Checks.inMode(before);
                CHECKS.due("mode(" + m + ")", x.mode(m), TinyFloats.BAD_ARG);
                CHECKS.due("mode(0) after a refused one", x.mode(0), before);
            }
        }
    }

    private static void modeIsUsedByLaterCalls() {
        int[] thirdsDue = {43, 42, 43, 42};
        int[] negativeThirdsDue = {171, 170, 170, 171};
        TinyFloats x = new TinyFloats();
        for (int m = 3; m >= 0; m--) {
            x.mode(m);
            CHECKS.due("divide(1, 3) in mode " + m, x.divide(1, 3), thirdsDue[m]);
            CHECKS.due("divide(129, 3) in mode " + m, x.divide(129, 3), negativeThirdsDue[m]);
        }
    }

    private static void notesAreCollected() {
        TinyFloats x = new TinyFloats();
        x.add(56, 1);
        CHECKS.due("notes() after a loss", x.notes(), 1);
        x.add(56, 1);
        CHECKS.due("notes() after a second loss", x.notes(), 1);
        x.divide(56, 0);
        CHECKS.due("notes() after a division by zero", x.notes(), 9);
        x.divide(184, 0);
        CHECKS.due("notes() after a second one", x.notes(), 9);
        x.root(184);
        CHECKS.due("notes() after a senseless root", x.notes(), 13);
        x.multiply(0, 120);
        CHECKS.due("notes() after a senseless product", x.notes(), 13);
        x.from(300);
        CHECKS.due("notes() after one too great", x.notes(), 15);
        x.add(56, 56);
        CHECKS.due("notes() after an exact sum", x.notes(), 15);
        CHECKS.due("notes() again", x.notes(), 15);
    }

    private static void clearAnswersTheNotesBefore() {
        TinyFloats x = Checks.inMode(2);
        x.store(77);
        x.divide(0, 128);
        x.from(250);
        CHECKS.due("clear()", x.clear(), 7);
        CHECKS.due("notes() after clear", x.notes(), 0);
        CHECKS.due("clear() again", x.clear(), 0);
        CHECKS.due("mode(0) after clear", x.mode(0), 2);
        CHECKS.due("store(0) after clear", x.store(0), 77);
        x.divide(1, 0);
        CHECKS.due("notes() collected after clear", x.notes(), 8);
    }

    private static void operationsLeaveModeAndStore() {
        TinyFloats x = Checks.inMode(3);
        x.store(61);
        x.add(119, 119);
        x.subtract(1, 119);
        x.multiply(60, 61);
        x.divide(60, 61);
        x.root(60);
        x.together(60, 61, 62);
        x.compare(60, 61);
        x.from(12345);
        x.whole(60);
        x.notes();
        CHECKS.due("store(0) after operations", x.store(0), 61);
        CHECKS.due("mode(0) after operations", x.mode(0), 3);
    }

    private static void refusedCallsChangeNothing() {
        for (int bad : NOT_CODES) {
            for (int other : new int[] {0, 56, 120, 125, 248, 255, bad}) {
                TinyFloats x = marked();
                refuse(x, "add", bad, other, x.add(bad, other));
                refuse(x, "add", other, bad, x.add(other, bad));
                refuse(x, "subtract", bad, other, x.subtract(bad, other));
                refuse(x, "subtract", other, bad, x.subtract(other, bad));
                refuse(x, "multiply", bad, other, x.multiply(bad, other));
                refuse(x, "multiply", other, bad, x.multiply(other, bad));
                refuse(x, "divide", bad, other, x.divide(bad, other));
                refuse(x, "divide", other, bad, x.divide(other, bad));
                refuse(x, "compare", bad, other, x.compare(bad, other));
                refuse(x, "compare", other, bad, x.compare(other, bad));
                refuse(x, "pileProduct", bad, other, x.pileProduct(bad, other));
                refuse(x, "pileProduct", other, bad, x.pileProduct(other, bad));
                refuse(x, "together, first bad,", bad, other, x.together(bad, other, other));
                refuse(x, "together, second bad,", bad, other, x.together(other, bad, other));
                refuse(x, "together, third bad,", bad, other, x.together(other, other, bad));
            }
            TinyFloats x = marked();
            refuse(x, "root", bad, 0, x.root(bad));
            refuse(x, "pile", bad, 0, x.pile(bad));
            refuse(x, "store", bad, 0, x.store(bad));
            CHECKS.due("whole(" + bad + ")", x.whole(bad), 9999);
            isStillMarked(x, "whole(" + bad + ")");
        }
        for (int n : new int[] {1000001, -1000001, Integer.MIN_VALUE, Integer.MAX_VALUE}) {
            TinyFloats x = marked();
            refuse(x, "from", n, 0, x.from(n));
        }
    }

    private static TinyFloats marked() {
        TinyFloats x = Checks.inMode(2);
        x.store(57);
        x.divide(1, 0);
        x.root(184);
        return x;
    }

    private static void refuse(TinyFloats x, String call, int a, int b, int got) {
        String text = call + "(" + a + ", " + b + ")";
        CHECKS.due(text, got, TinyFloats.BAD_ARG);
        isStillMarked(x, text);
    }

    private static void isStillMarked(TinyFloats x, String call) {
        CHECKS.due("notes() after refused " + call, x.notes(), 12);
        CHECKS.due("mode(2) after refused " + call, x.mode(2), 2);
        CHECKS.due("store(57) after refused " + call, x.store(57), 57);
    }
}
