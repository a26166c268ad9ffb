/** What the tests share: short ways to tell a hall, and a tally of the wrong answers. */
abstract class Checks {
    static final int NONE = -1, UNKNOWN = -2, OUTSIDE = -3, NOT = -4, FULL = -5;
    static final int LEAST = Integer.MIN_VALUE, MOST = Integer.MAX_VALUE;
    static final String[] CLAPPER_WORDS = {"guest", "fan", "sleeper", "shouter"};
    static final String[] ENCORE_WORDS = {"plain", "quiet", "brilliant", "known"};

    private static String subject = "";
    private static int asked;
    private static int wrong;

    static void about(String what) {
        subject = what;
    }

    static void due(long want, long got, String call) {
        tally(want == got, call + " answered " + got + ", due is " + want);
    }

    static void same(String before, WhichEncore x, String call) {
        String after = state(x);
        tally(before.equals(after), call + " changed " + before + " to " + after);
    }

    static void tally(boolean right, String otherwise) {
        asked++;
        if (!right) {
            wrong++;
            System.out.println(subject + ": " + otherwise);
        }
    }

    static void finish() {
        System.out.println(asked + " asked, " + wrong + " wrong");
        if (wrong != 0) {
            System.exit(1);
        }
    }

    static void put(WhichEncore x, String text) {
        for (int i = 0; i < text.length(); i++) {
            x.write(text.charAt(i));
        }
    }

    static WhichEncore told(String text) {
        WhichEncore x = new WhichEncore();
        tell(x, text);
        return x;
    }

    static void tell(WhichEncore x, String text) {
        put(x, text);
        tally(x.hall() > 0, "hall() refused " + text);
    }

    static void does(WhichEncore x, int... steps) {
        for (int step : steps) {
            tally(x.does(step) >= 0, "does(" + step + ") was refused");
        }
    }

    static void waits(WhichEncore x, int n) {
        for (int i = 0; i < n; i++) {
            does(x, 0);
        }
    }

    /** The answers of count(0), count(1) .. in a row. */
    static void counts(WhichEncore x, int... want) {
        for (int what = 0; what < want.length; what++) {
            due(want[what], x.count(what), "count(" + what + ")");
        }
    }

    static void best(WhichEncore x, int growth, int... steps) {
        due(growth, x.best(NONE), "best(NONE)");
        for (int i = 0; i <= 6; i++) {
            due(i < steps.length ? steps[i] : NONE, x.best(i), "best(" + i + ")");
        }
    }

    static String state(WhichEncore x) {
        StringBuilder all = new StringBuilder();
        for (int what = 0; what <= 12; what++) {
            all.append(x.count(what)).append(' ');
        }
        for (int c = 0; c < x.count(0); c++) {
            for (int what = 0; what <= 5; what++) {
                all.append(x.clapper(c, what)).append(' ');
            }
        }
        for (int e = 0; e < x.count(1); e++) {
            for (int what = 0; what <= 4; what++) {
                all.append(x.encore(e, what)).append(' ');
            }
        }
        return all.append(x.judge(0)).append(' ').append(x.judge(1)).toString();
    }

    static void fault(int want, String text) {
        faultAfter(new WhichEncore(), want, text);
    }

    static void faultAfter(WhichEncore x, int want, String text) {
        x.erase();
        put(x, text);
        due(want, x.fault(), "fault() of '" + text + "'");
        if (want != NONE) {
            String before = state(x);
            due(NOT, x.hall(), "hall() of '" + text + "'");
            same(before, x, "hall()");
        }
    }
}
