/**
 * Tests of the document's sentences, each on its own: a sentence is quoted before the calls that
 * would go wrong if it were broken, and is named with every wrong answer. The answers due are worked
 * by hand, without the oracle.
 */
final class Sentences {
    /** The least value, the last with e = 0 and the first with e = 1, then 1 and the greatest. */
    static final int[] SIZES_AT_EDGES = {1, 7, 8, 56, 119};

    private static final int[] NOT_CODES =
            {-1, 256, -128, -120, 257, 384, 512, Integer.MIN_VALUE, Integer.MAX_VALUE};
    private static final int[] OTHERS = {0, 56, 120, 125, 128, 248, 255};

    private final Checks checks;
    private String heading = "";
    private String words = "";
    private int askedBefore = 0;

    Sentences(String test) {
        checks = new Checks(test);
    }

    void under(String newHeading) {
        heading = newHeading;
    }

    void sentence(String newWords) {
        wasTested();
        words = newWords;
        askedBefore = checks.asked();
        checks.about(heading + ": \"" + words + "\": ");
    }

    void finish() {
        wasTested();
        checks.finish();
    }

    private void wasTested() {
        if (!words.isEmpty()) {
            int asked = checks.asked() - askedBefore;
            checks.dueTrue("something was asked", asked > 0);
        }
    }

    void due(String what, int got, int want) {
        checks.due(what, got, want);
    }

    /** A call that throws is one wrong answer, so that the sentences after it are still tested. */
    private int ask(TinyFloats x, String call) {
        try {
            return Calls.ask(x, call);
        } catch (ArithmeticException | IndexOutOfBoundsException | StackOverflowError e) {
            checks.dueTrue(call + " doesn't throw", false);
            return Integer.MIN_VALUE;
        }
    }

    /** Calls on one new object, in rows "call = the answer that is due". */
    void run(String... rows) {
        TinyFloats x = new TinyFloats();
        for (int i = 0; i < rows.length; i++) {
            int split = rows[i].indexOf(" = ");
            int want = Integer.parseInt(rows[i].substring(split + 3));
            String call = rows[i].substring(0, split);
            String text = "row " + (i + 1) + " of " + String.join("; ", rows) + ":";
            checks.due(text, ask(x, call), want);
        }
    }

    /** The call as the first one in this mode, with the notes that it leaves. */
    void inMode(int mode, String call, int want, int wantNotes) {
        TinyFloats x = Checks.inMode(mode);
        int got = ask(x, call);
        checks.due(call, mode, got, x.notes(), want, wantNotes);
    }

    void inAllModes(String call, int want, int wantNotes) {
        for (int mode = 0; mode < 4; mode++) {
            inMode(mode, call, want, wantNotes);
        }
    }

    /** The answer and the notes due in mode 0, then those in mode 1, 2 and 3. */
    void byMode(String call, int... answersAndNotes) {
        for (int mode = 0; mode < 4; mode++) {
            inMode(mode, call, answersAndNotes[2 * mode], answersAndNotes[2 * mode + 1]);
        }
    }

    /** An exact zero of which no operand tells the sign. */
    void zeroByMode(String call) {
        byMode(call, 0, 0, 0, 0, 0, 0, 128, 0);
    }

    /** Each argument in turn is no code, whatever the others are. */
    void refusesWhatIsNoCode(String name, int answer) {
        for (int place = 0; place < Calls.places(name); place++) {
            for (int bad : NOT_CODES) {
                for (int other : OTHERS) {
                    refused(callWith(name, place, bad, other), answer);
                }
                refused(callWith(name, place, bad, bad), answer);
            }
        }
    }

    /** Each argument in turn is the first or the last code; the calls are such that -1 isn't due. */
    void takesTheOuterCodes(String name) {
        for (int place = 0; place < Calls.places(name); place++) {
            for (int code : new int[] {0, 255}) {
                String call = callWith(name, place, code, 0);
                int got = ask(new TinyFloats(), call);
                checks.dueTrue(call + " isn't refused", got != TinyFloats.BAD_ARG);
            }
        }
    }

    private static String callWith(String name, int place, int there, int elsewhere) {
        int[] args = new int[Calls.places(name)];
        for (int i = 0; i < args.length; i++) {
            args[i] = i == place ? there : elsewhere;
        }
        return Calls.text(name, args);
    }

    /** Two states that differ from a new object's and have no note in common, so a change shows. */
    void refused(String call, int answer) {
        TinyFloats x = Checks.inMode(2);
        ask(x, "divide(1, 0)");
        ask(x, "root(184)");
        ask(x, "store(57)");
        refusedIn(x, call, answer, 2, 12, 57);
        TinyFloats y = Checks.inMode(1);
        ask(y, "from(256)");
        ask(y, "store(255)");
        refusedIn(y, call, answer, 1, 3, 255);
    }

    private void refusedIn(TinyFloats x, String call, int answer, int mode, int notes, int store) {
        checks.due(call, ask(x, call), answer);
        checks.due("notes() after " + call, x.notes(), notes);
        checks.due("mode(0) after " + call, x.mode(0), mode);
        checks.due("store(0) after " + call, x.store(0), store);
    }
}
