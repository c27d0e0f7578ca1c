/** The sentences of promises 12 and 13: from and whole. */
public final class WholeNumberSentencesTest {
    private static final Sentences DOC = new Sentences("WholeNumberSentencesTest");

    public static void main(String[] args) {
        DOC.under("Promise 12");
        roundedFromWhole();
        fromRefused();
        DOC.under("Promise 13");
        roundedToWhole();
        wholeOfOthers();
        DOC.finish();
    }

    private static void roundedFromWhole() {
        DOC.sentence("The whole number n rounded (code 0 for 0).");
        DOC.inAllModes("from(0)", 0, 0);
        DOC.inAllModes("from(1)", 56, 0);
        DOC.inAllModes("from(-1)", 184, 0);
        DOC.inAllModes("from(15)", 87, 0);
        DOC.inAllModes("from(16)", 88, 0);
        DOC.byMode("from(17)", 88, 1, 88, 1, 89, 1, 88, 1);
        DOC.byMode("from(-17)", 216, 1, 216, 1, 216, 1, 217, 1);
        DOC.byMode("from(19)", 90, 1, 89, 1, 90, 1, 89, 1);
        DOC.inAllModes("from(240)", 119, 0);
        DOC.inAllModes("from(-240)", 247, 0);
        DOC.byMode("from(241)", 119, 1, 119, 1, 120, 3, 119, 1);
        DOC.byMode("from(-241)", 247, 1, 247, 1, 247, 1, 248, 3);
        DOC.byMode("from(247)", 119, 1, 119, 1, 120, 3, 119, 1);
        DOC.byMode("from(248)", 120, 3, 119, 1, 120, 3, 119, 1);
        DOC.byMode("from(-248)", 248, 3, 247, 1, 247, 1, 248, 3);
        DOC.byMode("from(255)", 120, 3, 119, 1, 120, 3, 119, 1);
        DOC.byMode("from(256)", 120, 3, 119, 3, 120, 3, 119, 3);
        DOC.byMode("from(-256)", 248, 3, 247, 3, 247, 3, 248, 3);
        // Powers of two, where a number held too small would wrap around.
        for (int n = 512; n <= 524288; n *= 2) {
            DOC.byMode(Calls.text("from", n), 120, 3, 119, 3, 120, 3, 119, 3);
            DOC.byMode(Calls.text("from", -n), 248, 3, 247, 3, 247, 3, 248, 3);
        }
    }

    private static void fromRefused() {
        DOC.sentence("BAD_ARG if n is not -1000000 to 1000000.");
        DOC.byMode("from(1000000)", 120, 3, 119, 3, 120, 3, 119, 3);
        DOC.byMode("from(-1000000)", 248, 3, 247, 3, 247, 3, 248, 3);
        for (int n : new int[] {1000001, -1000001, 1 << 24, Integer.MIN_VALUE, Integer.MIN_VALUE + 1,
            Integer.MAX_VALUE}) {
            DOC.refused(Calls.text("from", n), -1);
        }
    }

    private static void roundedToWhole() {
        DOC.sentence("The value of a rounded to a whole number: in mode 0 the nearest, of two as near"
                + " the even one, in mode 1 towards 0, in mode 2 not below, in mode 3 not above; no"
                + " note.");
        DOC.inAllModes("whole(0)", 0, 0);
        DOC.inAllModes("whole(128)", 0, 0);
        DOC.inAllModes("whole(56)", 1, 0);
        DOC.inAllModes("whole(184)", -1, 0);
        DOC.inAllModes("whole(119)", 240, 0);
        DOC.inAllModes("whole(247)", -240, 0);
        // The least value, and the one before 1.
        DOC.byMode("whole(1)", 0, 0, 0, 0, 1, 0, 0, 0);
        DOC.byMode("whole(129)", 0, 0, 0, 0, 0, 0, -1, 0);
        DOC.byMode("whole(55)", 1, 0, 0, 0, 1, 0, 0, 0);
        DOC.byMode("whole(183)", -1, 0, 0, 0, 0, 0, -1, 0);
        // 15 / 32, a half, 9 / 16.
        DOC.byMode("whole(47)", 0, 0, 0, 0, 1, 0, 0, 0);
        DOC.byMode("whole(48)", 0, 0, 0, 0, 1, 0, 0, 0);
        DOC.byMode("whole(49)", 1, 0, 0, 0, 1, 0, 0, 0);
        DOC.byMode("whole(176)", 0, 0, 0, 0, 0, 0, -1, 0);
        DOC.byMode("whole(177)", -1, 0, 0, 0, 0, 0, -1, 0);
        // 1.5 and 2.5, both as near to 2; 7.5, the greatest that isn't whole.
        DOC.byMode("whole(60)", 2, 0, 1, 0, 2, 0, 1, 0);
        DOC.byMode("whole(188)", -2, 0, -1, 0, -1, 0, -2, 0);
        DOC.byMode("whole(66)", 2, 0, 2, 0, 3, 0, 2, 0);
        DOC.byMode("whole(194)", -2, 0, -2, 0, -2, 0, -3, 0);
        DOC.byMode("whole(79)", 8, 0, 7, 0, 8, 0, 7, 0);
        DOC.byMode("whole(207)", -8, 0, -7, 0, -7, 0, -8, 0);
    }

    private static void wholeOfOthers() {
        DOC.sentence("1000 for positive, -1000 for negative infinite, 9999 for a none-number or if a"
                + " is not 0 to 255.");
        DOC.inAllModes("whole(120)", 1000, 0);
        DOC.inAllModes("whole(248)", -1000, 0);
        for (int fraction = 1; fraction < 8; fraction++) {
            DOC.inAllModes(Calls.text("whole", 120 + fraction), 9999, 0);
            DOC.inAllModes(Calls.text("whole", 248 + fraction), 9999, 0);
        }
        DOC.refusesWhatIsNoCode("whole", 9999);
    }
}
