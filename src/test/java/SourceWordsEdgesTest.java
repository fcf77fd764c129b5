/** The edges that promises 18 to 21 name. */
public final class SourceWordsEdgesTest {
    private static final Due CHECK = new Due("SourceWordsEdgesTest");
    private static final int MIN = Integer.MIN_VALUE;
    private static final int MAX = Integer.MAX_VALUE;

    /** 32 letters that hold each word of two letters, and no word of three twice. */
    private static final String VARIED = "00102031121322330002100301101200";

    public static void main(String[] args) {
        wordsOfAnEmptySource();
        wordsOfOneLetter();
        wordsWhenFull();
        emptyWordIsNotCounted();
        wordsOfLessThanOne();
        wordsOfMoreThanTheSource();
        wordsOfAllTheSource();
        wordsOfWhenFull();
        absentFromAnEmptySource();
        absentLetter();
        absentPair();
        absentWhenFull();
        repeatInAnEmptySource();
        repeatOfNoLetter();
        repeatOfOneLetter();
        repeatWhenFull();
        repeatThatOverlaps();
        repeatAtThreePlaces();
        targetDoesNotCount();
        CHECK.end();
    }

    /** Promise 18, of the empty source, new or emptied. */
    private static void wordsOfAnEmptySource() {
        CHECK.due("words() of an empty source", Due.made("", "0123").words(), 0);
        CopyAddDelta x = Due.made(VARIED, "0123");
        x.clearSource();
        CHECK.due("words() of an emptied source", x.words(), 0);
    }

    /** Promise 18: one letter is one word. */
    private static void wordsOfOneLetter() {
        for (int c = 0; c <= 3; c++) {
            CHECK.due("words() of " + c, Due.made("" + c, "").words(), 1);
        }
    }

    /** Promise 18, of the full source: from 32, one of each length, to 485, as many as 32 letters can hold. */
    private static void wordsWhenFull() {
        CHECK.due("words() of 32 letters that are the same", Due.made("3".repeat(32), "").words(), 32);
        CHECK.due("words() of 32 varied letters", Due.made(VARIED, "").words(), 4 + 16 + 30 * 31 / 2);
    }

    /** Promise 18: "other than the empty one": words() is the sum of wordsOf(1) to wordsOf(s). */
    private static void emptyWordIsNotCounted() {
        for (int s = 0; s <= 32; s++) {
            CopyAddDelta x = Due.made(VARIED.substring(0, s), "");
            int sum = 0;
            for (int k = 1; k <= s; k++) {
                sum += x.wordsOf(k);
            }
            CHECK.due("words() at s = " + s, x.words(), sum);
        }
    }

    /** Promise 19: "0 if k < 1". */
    private static void wordsOfLessThanOne() {
        for (String source : new String[] {"", "0", "0123", VARIED}) {
            CopyAddDelta x = Due.made(source, "0");
            for (int k : new int[] {0, -1, -2, -32, -33, MIN + 1, MIN, MIN + 32}) {
                CHECK.due(source + ": wordsOf(" + k + ")", x.wordsOf(k), 0);
            }
            CHECK.texts(source + ", wordsOf", x, source, "0");
            for (int k : Ints.many()) {
                if (k < 1) {
                    CHECK.due(source + ": wordsOf(" + k + ")", Due.made(source, "").wordsOf(k), 0);
                }
            }
        }
    }

    /** Promise 19: no word of more than s letters occurs. */
    private static void wordsOfMoreThanTheSource() {
        for (String source : new String[] {"", "0", "0123", VARIED}) {
            int s = source.length();
            CopyAddDelta x = Due.made(source, "0");
            for (int k : new int[] {s + 1, s + 2, 33, 34, 64, MAX - 1, MAX}) {
                CHECK.due(source + ": wordsOf(" + k + ")", x.wordsOf(k), 0);
            }
            CHECK.texts(source + ", wordsOf", x, source, "0");
            for (int k : Ints.many()) {
                if (k > s) {
                    CHECK.due(source + ": wordsOf(" + k + ")", Due.made(source, "").wordsOf(k), 0);
                }
            }
        }
    }

    /** Promise 19: of s letters, one word occurs, of s - 1 at most two. */
    private static void wordsOfAllTheSource() {
        for (int s = 1; s <= 32; s++) {
            CHECK.due("wordsOf(s) at s = " + s, Due.made(VARIED.substring(0, s), "").wordsOf(s), 1);
            CHECK.due("wordsOf(s) of ones at s = " + s, Due.made("1".repeat(s), "").wordsOf(s), 1);
        }
        CHECK.due("wordsOf(3) of 0001", Due.made("0001", "").wordsOf(3), 2);
        CHECK.due("wordsOf(3) of 0000", Due.made("0000", "").wordsOf(3), 1);
    }

    /** Promise 19, of the full source, at every k from 1 to 32. */
    private static void wordsOfWhenFull() {
        CopyAddDelta same = Due.made("2".repeat(32), "");
        CopyAddDelta varied = Due.made(VARIED, "");
        for (int k = 1; k <= 32; k++) {
            CHECK.due("wordsOf(" + k + ") of 32 the same", same.wordsOf(k), 1);
            int want = k == 1 ? 4 : k == 2 ? 16 : 33 - k;
            CHECK.due("wordsOf(" + k + ") of 32 varied", varied.wordsOf(k), want);
        }
    }

    /** Promise 20, of the empty source: no letter occurs; the empty word does, so it isn't 0. */
    private static void absentFromAnEmptySource() {
        CHECK.due("shortestAbsent() of an empty source", Due.made("", "0123").shortestAbsent(), 1);
        CopyAddDelta x = Due.made(VARIED, "");
        x.clearSource();
        CHECK.due("shortestAbsent() of an emptied source", x.shortestAbsent(), 1);
    }

    /** Promise 20: 1 as long as one "of the letters 0 to 3", whichever, is absent. */
    private static void absentLetter() {
        for (String source : new String[] {"0", "123", "023", "013", "012", "0".repeat(32), "012".repeat(10)}) {
            CHECK.due(source + ": shortestAbsent()", Due.made(source, "").shortestAbsent(), 1);
        }
    }

    /** Promise 20: 2 as soon as the four letters are there and as long as one pair, whichever, is absent. */
    private static void absentPair() {
        CHECK.due("0123: shortestAbsent()", Due.made("0123", "").shortestAbsent(), 2);
        CHECK.due("3210 ...: shortestAbsent()", Due.made("3210".repeat(8), "").shortestAbsent(), 2);
        // All 16 pairs, one after the other in a ring: without its last letter, one pair is absent.
        String ring = "0010203112132233";
        for (int turn = 0; turn < 16; turn++) {
            String source = ring.substring(turn) + ring.substring(0, turn);
            CHECK.due(source + ": shortestAbsent()", Due.made(source, "").shortestAbsent(), 2);
            String closed = source + source.charAt(0);
            CHECK.due(closed + ": shortestAbsent()", Due.made(closed, "").shortestAbsent(), 3);
        }
    }

    /** Promise 20, of the full source: it holds at most 30 of the 64 words of three letters, so 3 is the most. */
    private static void absentWhenFull() {
        CHECK.due("shortestAbsent() of 32 varied", Due.made(VARIED, "").shortestAbsent(), 3);
        String noPair = "0123".repeat(7) + "0202";
        CHECK.due(noPair + ": shortestAbsent()", Due.made(noPair, "").shortestAbsent(), 2);
        String lastLetter = "012".repeat(10) + "03";
        CHECK.due(lastLetter + ": shortestAbsent()", Due.made(lastLetter, "").shortestAbsent(), 2);
    }

    /** Promise 21, of the empty source. */
    private static void repeatInAnEmptySource() {
        CHECK.due("longestRepeat() of an empty source", Due.made("", "00").longestRepeat(), 0);
        CopyAddDelta x = Due.made("0000", "");
        x.clearSource();
        CHECK.due("longestRepeat() of an emptied source", x.longestRepeat(), 0);
    }

    /** Promise 21: "(0 if no letter does)". */
    private static void repeatOfNoLetter() {
        for (String source : new String[] {"0", "3", "01", "012", "0123", "3120"}) {
            CHECK.due(source + ": longestRepeat()", Due.made(source, "").longestRepeat(), 0);
        }
    }

    /** Promise 21: one letter "at two or more places", side by side or at both ends. */
    private static void repeatOfOneLetter() {
        for (String source : new String[] {"00", "33", "010", "1220", "01230", "01233", "00123"}) {
            CHECK.due(source + ": longestRepeat()", Due.made(source, "").longestRepeat(), 1);
        }
    }

    /** Promise 21, of the full source: up to 31, and never 32, as a word of 32 letters has one place. */
    private static void repeatWhenFull() {
        CHECK.due("longestRepeat() of 32 the same", Due.made("1".repeat(32), "").longestRepeat(), 31);
        CHECK.due("longestRepeat() of 8 times 0112", Due.made("0112".repeat(8), "").longestRepeat(), 28);
        CHECK.due("longestRepeat() of 32 varied", Due.made(VARIED, "").longestRepeat(), 2);
        String ends = "012" + "3".repeat(26) + "012";
        CHECK.due(ends + ": longestRepeat()", Due.made(ends, "").longestRepeat(), 25);
        String apart = "0123" + "0231" + "1302" + "2011" + "3322" + "1000" + "3203" + "0123";
        CHECK.due(apart + ": longestRepeat()", Due.made(apart, "").longestRepeat(), 4);
    }

    /** Promise 21: the two places may be less than the word's length apart. */
    private static void repeatThatOverlaps() {
        CHECK.due("000: longestRepeat()", Due.made("000", "").longestRepeat(), 2);
        CHECK.due("01010: longestRepeat()", Due.made("01010", "").longestRepeat(), 3);
        CHECK.due("0120120: longestRepeat()", Due.made("0120120", "").longestRepeat(), 4);
    }

    /** Promise 21: "at two or more places": three places of a short word don't hide two of a longer one. */
    private static void repeatAtThreePlaces() {
        CHECK.due("0101020123: longestRepeat()", Due.made("0101020123", "").longestRepeat(), 3);
        CHECK.due("010203: longestRepeat()", Due.made("010203", "").longestRepeat(), 1);
    }

    /** Promises 18 to 21: "occur in the source": what the target holds doesn't count. */
    private static void targetDoesNotCount() {
        CopyAddDelta x = Due.made("01", "233201");
        CHECK.due("words() beside a target", x.words(), 3);
        CHECK.due("wordsOf(1) beside a target", x.wordsOf(1), 2);
        CHECK.due("shortestAbsent() beside a target", x.shortestAbsent(), 1);
        CHECK.due("longestRepeat() beside a target", x.longestRepeat(), 0);
    }
}
