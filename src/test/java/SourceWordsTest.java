/** Promises 18 to 21: what the source holds. */
public final class SourceWordsTest {
    private static final Due CHECK = new Due("SourceWordsTest");

    /** Holds each word of two letters once, and each letter. */
    private static final String ALL_PAIRS = "00102031121322330";

    public static void main(String[] args) {
        words();
        wordsOf();
        shortestAbsent();
        longestRepeat();
        afterChanges();
        CHECK.end();
    }

    private static void words() {
        words("", 0);
        words("2", 1);
        words("00", 2);
        words("01", 3);
        words("010", 5);
        words("0123", 10);
        words("0101", 7);
        words("0".repeat(32), 32);
        // 31 words without the 1 and 32 that end with it.
        words("0".repeat(31) + "1", 31 + 32);
        // Two halves of one letter each: 16 + 16 words of one letter, 256 of both.
        words("0".repeat(16) + "1".repeat(16), 32 + 256);
    }

    private static void words(String source, int want) {
        CopyAddDelta x = Due.made(source, "0");
        CHECK.due(source + ": words()", x.words(), want);
        int sum = 0;
        for (int k = 0; k <= 33; k++) {
            sum += x.wordsOf(k);
        }
        CHECK.due(source + ": sum of wordsOf", sum, want);
        CHECK.texts(source, x, source, "0");
    }

    private static void wordsOf() {
        wordsOf("", 0, 0, 0, 0);
        wordsOf("2", 0, 1, 0, 0);
        wordsOf("0101", 0, 2, 2, 2, 1, 0);
        wordsOf("0123", 0, 4, 3, 2, 1, 0);
        wordsOf("0000", 0, 1, 1, 1, 1, 0);
        wordsOf("01001", 0, 2, 3, 3, 2, 1, 0);
        wordsOf(ALL_PAIRS, 0, 4, 16, 15, 14);
        CopyAddDelta full = Due.made("0".repeat(16) + "1".repeat(16), "");
        CHECK.due("wordsOf(16)", full.wordsOf(16), 17);
        CHECK.due("wordsOf(17)", full.wordsOf(17), 16);
        CHECK.due("wordsOf(32)", full.wordsOf(32), 1);
        CHECK.due("wordsOf(33)", full.wordsOf(33), 0);
    }

    private static void wordsOf(String source, int... want) {
        CopyAddDelta x = Due.made(source, "0");
        for (int k = 0; k < want.length; k++) {
            CHECK.due(source + ": wordsOf(" + k + ")", x.wordsOf(k), want[k]);
        }
        for (int k : new int[] {-1, -2, Integer.MIN_VALUE, 33, Integer.MAX_VALUE}) {
            CHECK.due(source + ": wordsOf(" + k + ")", x.wordsOf(k), 0);
        }
        CHECK.texts(source, x, source, "0");
    }

    private static void shortestAbsent() {
        shortestAbsent("", 1);
        shortestAbsent("0", 1);
        shortestAbsent("012", 1);
        shortestAbsent("0".repeat(32), 1);
        shortestAbsent("0123", 2);
        shortestAbsent("33210", 2);
        shortestAbsent(ALL_PAIRS, 3);
        // Without its last letter, 30 is absent.
        shortestAbsent(ALL_PAIRS.substring(0, 16), 2);
        shortestAbsent(ALL_PAIRS + "123012301230123", 3);
    }

    private static void shortestAbsent(String source, int want) {
        CopyAddDelta x = Due.made(source, "0123");
        CHECK.due(source + ": shortestAbsent()", x.shortestAbsent(), want);
        CHECK.texts(source, x, source, "0123");
    }

    private static void longestRepeat() {
        longestRepeat("", 0);
        longestRepeat("0", 0);
        longestRepeat("0123", 0);
        longestRepeat("01230", 1);
        longestRepeat("33", 1);
        longestRepeat("012301", 2);
        // The two places may overlap.
        longestRepeat("01010", 3);
        longestRepeat("0".repeat(32), 31);
        longestRepeat("0".repeat(31) + "1", 30);
        longestRepeat("1" + "0".repeat(31), 30);
        // 3312, neither at the begin nor at the end; 12 has a third place.
        longestRepeat("0123312213312032", 4);
        longestRepeat(ALL_PAIRS, 1);
    }

    private static void longestRepeat(String source, int want) {
        CopyAddDelta x = Due.made(source, "0123");
        CHECK.due(source + ": longestRepeat()", x.longestRepeat(), want);
        CHECK.texts(source, x, source, "0123");
    }

    private static void afterChanges() {
        CopyAddDelta x = Due.made("0123", "0123");
        x.accept();
        CHECK.due("accepted: words()", x.words(), 26);
        CHECK.due("accepted: wordsOf(5)", x.wordsOf(5), 4);
        CHECK.due("accepted: longestRepeat()", x.longestRepeat(), 4);
        x.clearSource();
        x.source(0);
        CHECK.due("cleared: words()", x.words(), 1);
        CHECK.due("cleared: wordsOf(1)", x.wordsOf(1), 1);
        CHECK.due("cleared: shortestAbsent()", x.shortestAbsent(), 1);
        CHECK.due("cleared: longestRepeat()", x.longestRepeat(), 0);
    }
}
