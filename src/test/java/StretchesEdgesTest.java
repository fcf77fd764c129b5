/** The edges that promises 15 to 17 name. */
public final class StretchesEdgesTest {
    private static final Due CHECK = new Due("StretchesEdgesTest");
    private static final Refusal REFUSED = new Refusal(CHECK);
    private static final int BAD_ARG = CopyAddDelta.BAD_ARG;
    private static final int MIN = Integer.MIN_VALUE;
    private static final int MAX = Integer.MAX_VALUE;

    public static void main(String[] args) {
        beginBelowNothing();
        endBeforeTheBegin();
        endBehindTheTarget();
        noStretchOfNothing();
        noStretchWhenFull();
        anyInts();
        emptyWord();
        emptyWordOfAnEmptySource();
        wordLongerThanTheSource();
        occurrencesWhenFull();
        longestOfNothing();
        longestOfAnEmptySource();
        longestWithNoLetterInCommon();
        longestOfOneLetter();
        longestWhenFull();
        leastOfTheLongest();
        CHECK.end();
    }

    /** Promise 15: "BAD_ARG if there is no such stretch": i < 0. */
    private static void beginBelowNothing() {
        for (int j : new int[] {-1, 0, 3}) {
            REFUSED.due("0123", "012", Call.OCCURRENCES, -1, j, BAD_ARG);
            REFUSED.due("0123", "012", Call.OCCURRENCES, MIN, j, BAD_ARG);
        }
    }

    /** The same: i > j. */
    private static void endBeforeTheBegin() {
        for (int[] a : new int[][] {{1, 0}, {3, 2}, {3, 0}, {0, -1}, {0, MIN}, {3, MIN}}) {
            REFUSED.due("0123", "012", Call.OCCURRENCES, a[0], a[1], BAD_ARG);
        }
    }

    /** The same: j > t. */
    private static void endBehindTheTarget() {
        for (int[] a : new int[][] {{0, 4}, {3, 4}, {4, 4}, {0, MAX}, {3, MAX}, {MAX, MAX}, {4, 3}, {MAX, 3}}) {
            REFUSED.due("0123", "012", Call.OCCURRENCES, a[0], a[1], BAD_ARG);
        }
        // j - i wraps around here.
        REFUSED.due("0123", "012", Call.OCCURRENCES, MIN, MAX, BAD_ARG);
        REFUSED.due("0123", "012", Call.OCCURRENCES, MAX, MIN, BAD_ARG);
    }

    /** The same, of the empty target: (0, 0) is its only stretch. */
    private static void noStretchOfNothing() {
        for (int[] a : new int[][] {{0, 1}, {1, 1}, {1, 0}, {-1, 0}, {0, -1}, {-1, -1}}) {
            REFUSED.due("0123", "", Call.OCCURRENCES, a[0], a[1], BAD_ARG);
        }
        CHECK.due("occurrences(0, 0) of nothing", Due.made("0123", "").occurrences(0, 0), 5);
    }

    /** The same, of the full target. */
    private static void noStretchWhenFull() {
        for (int[] a : new int[][] {{0, 25}, {24, 25}, {25, 25}, {24, 23}, {-1, 24}}) {
            REFUSED.due("0123", Due.T24, Call.OCCURRENCES, a[0], a[1], BAD_ARG);
        }
    }

    /** The same, for any two ints. */
    private static void anyInts() {
        for (int i : Ints.some()) {
            CopyAddDelta x = Due.made("0", "11111");
            for (int j : Ints.some()) {
                boolean is = 0 <= i && i <= j && j <= 5;
                CHECK.due("occurrences(" + i + ", " + j + ")", x.occurrences(i, j), !is ? BAD_ARG : i == j ? 2 : 0);
            }
        }
    }

    /** Promise 15: "(The empty word occurs at the places 0 to s, s + 1 times.)", from wherever in the target. */
    private static void emptyWord() {
        for (int s = 0; s <= 32; s++) {
            CopyAddDelta x = Due.made("0".repeat(s), Due.T24);
            for (int i = 0; i <= 24; i++) {
                CHECK.due("occurrences(" + i + ", " + i + ") at s = " + s, x.occurrences(i, i), s + 1);
            }
        }
    }

    /** The same, of the empty source: once; no other word does. */
    private static void emptyWordOfAnEmptySource() {
        CHECK.due("occurrences(0, 0) of two empty texts", new CopyAddDelta().occurrences(0, 0), 1);
        CopyAddDelta x = Due.made("", "012");
        for (int i = 0; i <= 3; i++) {
            for (int j = i; j <= 3; j++) {
                CHECK.due("occurrences(" + i + ", " + j + ") of an empty source", x.occurrences(i, j), i == j ? 1 : 0);
            }
        }
    }

    /** Promise 15: a word longer than the source occurs nowhere, one as long at place 0 alone. */
    private static void wordLongerThanTheSource() {
        CopyAddDelta x = Due.made("000", "0000");
        CHECK.due("occurrences(0, 4) of three letters", x.occurrences(0, 4), 0);
        CHECK.due("occurrences(0, 3) of three letters", x.occurrences(0, 3), 1);
        CHECK.due("occurrences(1, 4) of three letters", x.occurrences(1, 4), 1);
    }

    /** Promise 15, of full texts: places that overlap, up to 32. */
    private static void occurrencesWhenFull() {
        CopyAddDelta x = Due.made("0".repeat(32), "0".repeat(24));
        for (int j = 0; j <= 24; j++) {
            CHECK.due("occurrences(0, " + j + ") when full", x.occurrences(0, j), 33 - j);
            CHECK.due("occurrences(" + (24 - j) + ", 24) when full", x.occurrences(24 - j, 24), 33 - j);
        }
    }

    /** Promises 16 and 17, of the empty target: its empty stretch alone occurs, at 0. */
    private static void longestOfNothing() {
        for (int s = 0; s <= 32; s++) {
            longest("0".repeat(s), "", 0, 0);
        }
    }

    /** The same of the empty source: the least of the empty stretches is the one at 0. */
    private static void longestOfAnEmptySource() {
        for (int t = 0; t <= 24; t++) {
            longest("", Due.T24.substring(0, t), 0, 0);
        }
    }

    /** The same where both have letters, but none in common. */
    private static void longestWithNoLetterInCommon() {
        longest("0", "1", 0, 0);
        longest("0101", "2323", 0, 0);
        longest("0".repeat(32), "3".repeat(24), 0, 0);
    }

    /** Promises 16 and 17: one letter in common, at the target's first place, at its last, at the source's last. */
    private static void longestOfOneLetter() {
        longest("0", "0" + "1".repeat(23), 1, 0);
        longest("0", "1".repeat(23) + "0", 1, 23);
        longest("1".repeat(31) + "0", "230", 1, 2);
    }

    /** Promises 16 and 17: no stretch is longer than either text. */
    private static void longestWhenFull() {
        longest("0".repeat(32), "0".repeat(24), 24, 0);
        longest("0".repeat(32), "1" + "0".repeat(23), 23, 1);
        longest("0".repeat(3), "0".repeat(24), 3, 0);
    }

    /** Promise 17: "The least i such that": of several, the first. */
    private static void leastOfTheLongest() {
        longest("0123", "30123012", 4, 1);
        longest("0123", "23012301", 4, 2);
        longest("01", "10101010", 2, 1);
        longest("0", "10001000", 1, 1);
    }

    private static void longest(String source, String target, int length, int at) {
        CopyAddDelta x = Due.made(source, target);
        CHECK.due(source + "/" + target + ": longest()", x.longest(), length);
        CHECK.due(source + "/" + target + ": longestAt()", x.longestAt(), at);
    }
}
