/** The edges that promise 4 names. */
public final class QuoteEdgesTest {
    private static final Due CHECK = new Due("QuoteEdgesTest");
    private static final Refusal REFUSED = new Refusal(CHECK);
    private static final int BAD_ARG = CopyAddDelta.BAD_ARG;
    private static final int FULL = CopyAddDelta.FULL;
    private static final int MIN = Integer.MIN_VALUE;
    private static final int MAX = Integer.MAX_VALUE;

    public static void main(String[] args) {
        placeBelowNothing();
        fewerThanNothing();
        sumGreaterThanTheSource();
        sumThatWrapsAround();
        emptySource();
        tooManyForTheTarget();
        badBeforeFull();
        upToTheSourcesEnd();
        upToTheTargetsEnd();
        noneOfThem();
        anyInts();
        CHECK.end();
    }

    /** "k < 0 ... answers BAD_ARG", though k + n is not greater than s. */
    private static void placeBelowNothing() {
        for (int n : new int[] {0, 1, 4, 5}) {
            REFUSED.due("0123", "21", Call.QUOTE, -1, n, BAD_ARG);
            REFUSED.due("0123", "21", Call.QUOTE, MIN, n, BAD_ARG);
        }
        REFUSED.due("", "", Call.QUOTE, -1, 1, BAD_ARG);
    }

    /** "n < 0 ... answers BAD_ARG", though k + n is not greater than s. */
    private static void fewerThanNothing() {
        for (int k : new int[] {0, 1, 4, 5}) {
            REFUSED.due("0123", "21", Call.QUOTE, k, -1, BAD_ARG);
            REFUSED.due("0123", "21", Call.QUOTE, k, MIN, BAD_ARG);
        }
        REFUSED.due("0123", "21", Call.QUOTE, MAX, -MAX, BAD_ARG);
        REFUSED.due("0123", "21", Call.QUOTE, -1, -1, BAD_ARG);
        REFUSED.due("0123", "21", Call.QUOTE, MIN, MIN, BAD_ARG);
    }

    /** "k + n greater than s answers BAD_ARG": by one, at every k, with n = 0 too. */
    private static void sumGreaterThanTheSource() {
        for (int k = 0; k <= 5; k++) {
            REFUSED.due("0123", "21", Call.QUOTE, k, 5 - k, BAD_ARG);
        }
        REFUSED.due(Due.S32, "", Call.QUOTE, 33, 0, BAD_ARG);
        REFUSED.due(Due.S32, "", Call.QUOTE, 32, 1, BAD_ARG);
        REFUSED.due(Due.S32, "", Call.QUOTE, 9, 24, BAD_ARG);
    }

    /** The same where an int can't hold k + n. */
    private static void sumThatWrapsAround() {
        for (int[] a : new int[][] {{MAX, 1}, {1, MAX}, {MAX, 4}, {4, MAX}, {MAX, MAX}, {1 << 30, 1 << 30}}) {
            REFUSED.due("0123", "21", Call.QUOTE, a[0], a[1], BAD_ARG);
        }
        REFUSED.due(Due.S32, Due.T24, Call.QUOTE, 32, MAX, BAD_ARG);
        REFUSED.due(Due.S32, Due.T24, Call.QUOTE, MAX, 24, BAD_ARG);
    }

    /** The same for s = 0, where quote(0, 0) alone is none of this. */
    private static void emptySource() {
        REFUSED.due("", "21", Call.QUOTE, 0, 1, BAD_ARG);
        REFUSED.due("", "21", Call.QUOTE, 1, 0, BAD_ARG);
        CopyAddDelta x = Due.made("", "21");
        CHECK.due("quote(0, 0) of an empty source", x.quote(0, 0), 2);
        CHECK.texts("quote of an empty source", x, "", "21");
    }

    /** "t + n greater than 24 answers FULL": by one, and none of the letters are appended. */
    private static void tooManyForTheTarget() {
        for (int t = 1; t <= 24; t++) {
            REFUSED.due(Due.S32, Due.T24.substring(0, t), Call.QUOTE, 1, 25 - t, FULL);
        }
        REFUSED.due(Due.S32, "", Call.QUOTE, 7, 25, FULL);
        REFUSED.due(Due.S32, "", Call.QUOTE, 0, 32, FULL);
        REFUSED.due(Due.S32, Due.T24, Call.QUOTE, 0, 32, FULL);
        REFUSED.due(Due.S32, Due.T24, Call.QUOTE, 31, 1, FULL);
    }

    /** "Tested in this order": BAD_ARG where FULL would be due too. */
    private static void badBeforeFull() {
        REFUSED.due(Due.S32, Due.T24, Call.QUOTE, -1, 1, BAD_ARG);
        REFUSED.due(Due.S32, Due.T24, Call.QUOTE, 0, -1, BAD_ARG);
        REFUSED.due(Due.S32, Due.T24, Call.QUOTE, 0, 33, BAD_ARG);
        REFUSED.due(Due.S32, Due.T24, Call.QUOTE, 32, 1, BAD_ARG);
        REFUSED.due(Due.S32, Due.T24, Call.QUOTE, 0, MAX, BAD_ARG);
        REFUSED.due("0123", Due.T24, Call.QUOTE, 1, 4, BAD_ARG);
        REFUSED.due("", "", Call.QUOTE, 0, 25, BAD_ARG);
    }

    /** "Otherwise the new t": k + n may be s. */
    private static void upToTheSourcesEnd() {
        for (int k = 0; k <= 4; k++) {
            CopyAddDelta x = Due.made("0123", "1");
            CHECK.due("quote(" + k + ", " + (4 - k) + ") to the end", x.quote(k, 4 - k), 5 - k);
            CHECK.texts("quote from " + k + " to the end", x, "0123", "1" + "0123".substring(k));
        }
        CopyAddDelta full = Due.made(Due.S32, "");
        CHECK.due("quote(8, 24) of 32", full.quote(8, 24), 24);
        CHECK.texts("quote to the end of 32", full, Due.S32, Due.S32.substring(8));
    }

    /** "Otherwise the new t": t + n may be 24. */
    private static void upToTheTargetsEnd() {
        for (int t = 0; t <= 24; t++) {
            CopyAddDelta x = Due.made(Due.S32, Due.T24.substring(0, t));
            CHECK.due("quote(1, " + (24 - t) + ") at t = " + t, x.quote(1, 24 - t), 24);
            CHECK.texts("quote at t = " + t, x, Due.S32, Due.T24.substring(0, t) + Due.S32.substring(1, 25 - t));
        }
    }

    /** "n of them": none, at every place from 0 to s, also when both texts are full. */
    private static void noneOfThem() {
        CopyAddDelta full = Due.made(Due.S32, Due.T24);
        for (int k = 0; k <= 32; k++) {
            CHECK.due("quote(" + k + ", 0) when full", full.quote(k, 0), 24);
        }
        CHECK.texts("quote of none when full", full, Due.S32, Due.T24);
        CHECK.due("quote(0, 0) of a new object", new CopyAddDelta().quote(0, 0), 0);
    }

    /** All of it, for any two ints, at lengths near both ends. */
    private static void anyInts() {
        for (int s : new int[] {0, 1, 4, 24, 25, 31, 32}) {
            for (int t : new int[] {0, 1, 12, 23, 24}) {
                for (int k : Ints.some()) {
                    for (int n : Ints.some()) {
                        anyInts(Due.S32.substring(0, s), Due.T24.substring(0, t), k, n);
                    }
                }
            }
        }
    }

    private static void anyInts(String source, String target, int k, int n) {
        CopyAddDelta x = Due.made(source, target);
        String call = source + "/" + target + ": quote(" + k + ", " + n + ")";
        boolean bad = k < 0 || n < 0 || (long) k + n > source.length();
        boolean full = !bad && target.length() + n > 24;
        int want = bad ? BAD_ARG : full ? FULL : target.length() + n;
        CHECK.due(call, x.quote(k, n), want);
        CHECK.due(call + ", then lengths()", x.lengths(),
                source.length() + 64 * (bad || full ? target.length() : want));
    }
}
