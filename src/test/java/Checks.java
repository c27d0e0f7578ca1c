/** Counts wrong answers, prints them, and ends the test as the shared tests do. */
final class Checks {
    private static final int MOST_PRINTED = 20;

    private final String test;
    private int wrong = 0;
    private int printed = 0;
    private int asked = 0;
    private String about = "";

    Checks(String test) {
        this.test = test;
    }

    /** What the next wrong answers are about; it is printed before each. */
    void about(String what) {
        about = what;
        printed = 0;
    }

    int asked() {
        return asked;
    }

    void due(String call, int got, int want) {
        asked++;
        if (got != want) {
            report(call + " answered " + got + ", due is " + want);
        }
    }

    /** One operation on a new object: its answer and the notes it leaves. */
    void due(String call, int mode, int got, int gotNotes, int want, int wantNotes) {
        asked++;
        if (got != want || gotNotes != wantNotes) {
            report("mode " + mode + ": " + call + " answered " + got + " with notes " + gotNotes
                    + ", due is " + want + " with notes " + wantNotes);
        }
    }

    void dueTrue(String what, boolean holds) {
        asked++;
        if (!holds) {
            report("not so: " + what);
        }
    }

    void finish() {
        if (asked == 0) {
            report("nothing was asked");
        }
        if (wrong != 0) {
            System.out.println(test + ": " + wrong + " of " + asked + " answers are not as due");
            System.exit(1);
        }
        System.out.println(test + ": all " + asked + " answers are as due");
    }

    private void report(String text) {
        wrong++;
        if (printed < MOST_PRINTED) {
            printed++;
            System.out.println(about + text);
        }
    }

    static TinyFloats inMode(int mode) {
        TinyFloats x = new TinyFloats();
        x.mode(mode);
        return x;
    }
}
