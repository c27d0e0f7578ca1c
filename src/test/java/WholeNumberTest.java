/** Promises 12 and 13: from and whole, in all modes. */
public final class WholeNumberTest {
    private static final Checks CHECKS = new Checks("WholeNumberTest");

    public static void main(String[] args) {
        for (int mode = 0; mode < 4; mode++) {
            for (int n = -3000; n <= 3000; n++) {
                fromByOracle(mode, n);
            }
            for (int n = 3001; n <= 1000000; n += 331) {
                fromByOracle(mode, n);
                fromByOracle(mode, -n);
            }
            fromByOracle(mode, 1000000);
            fromByOracle(mode, -1000000);
            for (int a = 0; a < 256; a++) {
                whole(mode, a, new Oracle(mode).whole(Oracle.value(a)));
            }
        }
        fromByHand();
        wholeByHand();
        CHECKS.finish();
    }

    private static void fromByHand() {
        int[] greatDue = {120, 119, 120, 119};
        int[] negativeGreatDue = {248, 247, 247, 248};
        int[] midwayNotesDue = {3, 1, 3, 1};
        for (int mode = 0; mode < 4; mode++) {
            from(mode, 0, 0, 0);
            from(mode, 1, 56, 0);
            from(mode, -1, 184, 0);
            from(mode, 240, 119, 0);
            from(mode, -240, 247, 0);
            from(mode, 248, greatDue[mode], midwayNotesDue[mode]);
            // From 256 on even the size cut down is above 240.
            from(mode, 256, greatDue[mode], 3);
            from(mode, -256, negativeGreatDue[mode], 3);
            from(mode, 1000000, greatDue[mode], 3);
            from(mode, -1000000, negativeGreatDue[mode], 3);
        }
        // 17 is midway between 16 and 18, 19 between 18 and 20: the even code is taken.
        from(0, 17, 88, 1);
        from(0, 19, 90, 1);
        from(0, 247, 119, 1);
        from(1, 255, 119, 1);
        from(2, 241, 120, 3);
        from(2, -255, 247, 1);
        from(3, 255, 119, 1);
        from(3, -241, 248, 3);
    }

    private static void wholeByHand() {
        for (int mode = 0; mode < 4; mode++) {
            whole(mode, 0, 0);
            whole(mode, 128, 0);
            whole(mode, 56, 1);
            whole(mode, 119, 240);
            whole(mode, 247, -240);
            whole(mode, 120, 1000);
            whole(mode, 248, -1000);
            whole(mode, 121, 9999);
            whole(mode, 255, 9999);
        }
        // 48 is a half, 60 is 1.5, 66 is 2.5: as near to both neighbours.
        wholeInAllModes(48, 0, 0, 1, 0);
        wholeInAllModes(176, 0, 0, 0, -1);
        wholeInAllModes(60, 2, 1, 2, 1);
        wholeInAllModes(188, -2, -1, -1, -2);
        wholeInAllModes(66, 2, 2, 3, 2);
        wholeInAllModes(194, -2, -2, -2, -3);
        wholeInAllModes(1, 0, 0, 1, 0);
        wholeInAllModes(129, 0, 0, 0, -1);
        wholeInAllModes(49, 1, 0, 1, 0);
    }

    private static void fromByOracle(int mode, int n) {
        Oracle due = new Oracle(mode);
        due.from(n);
        from(mode, n, due.code, due.notes);
    }

    private static void from(int mode, int n, int want, int wantNotes) {
        TinyFloats x = Checks.inMode(mode);
        int got = x.from(n);
        CHECKS.due("from(" + n + ")", mode, got, x.notes(), want, wantNotes);
    }

    private static void wholeInAllModes(int a, int nearest, int cut, int up, int down) {
        whole(0, a, nearest);
        whole(1, a, cut);
        whole(2, a, up);
        whole(3, a, down);
    }

    private static void whole(int mode, int a, int want) {
        TinyFloats x = Checks.inMode(mode);
        int got = x.whole(a);
        CHECKS.due("whole(" + a + ")", mode, got, x.notes(), want, 0);
    }
}
