/** Counts the answers of one test that are not as due, and ends the test. */
final class Due {
    /** A full source. */
    static final String S32 = "01230123012301230123012301230123";
    /** A full target, of whose pairs of letters none occurs in S32. */
    static final String T24 = "332211003322110033221100";

    private final String test;
    private int asked = 0;
    private int wrong = 0;

    Due(String test) {
        this.test = test;
    }

    void due(String call, long got, long want) {
        asked++;
        if (got != want) {
            wrong++;
            System.out.println(test + ": " + call + " answered " + got + ", due is " + want);
        }
    }

    void holds(String what, boolean held) {
        asked++;
        if (!held) {
            wrong++;
            System.out.println(test + ": not so: " + what);
        }
    }

    void end() {
        if (asked == 0) {
            System.out.println(test + ": nothing was asked");
        }
        if (wrong != 0 || asked == 0) {
            System.exit(1);
        }
    }

    /** A new object with these texts, a digit a letter. */
    static CopyAddDelta made(String source, String target) {
        CopyAddDelta x = new CopyAddDelta();
        appendSource(x, source);
        appendTarget(x, target);
        return x;
    }

    static void appendSource(CopyAddDelta x, String letters) {
        for (char c : letters.toCharArray()) {
            x.source(c - '0');
        }
    }

    static void appendTarget(CopyAddDelta x, String letters) {
        for (char c : letters.toCharArray()) {
            x.target(c - '0');
        }
    }

    /**
     * Asks for every letter of both texts. The target is read and put back by
     * change; the source is read through quote after the target is cleared, so
     * the target is empty afterwards.
     */
    void texts(String when, CopyAddDelta x, String source, String target) {
        due(when + ": lengths()", x.lengths(), source.length() + 64 * target.length());
        for (int i = 0; i < target.length(); i++) {
            int want = target.charAt(i) - '0';
            due(when + ": target letter " + i, x.change(i, want), want);
        }
        x.clearTarget();
        for (int k = 0; k < source.length(); k++) {
            due(when + ": quote(" + k + ", 1)", x.quote(k, 1), 1);
            due(when + ": source letter " + k, x.change(0, 0), source.charAt(k) - '0');
            x.clearTarget();
        }
    }
}
