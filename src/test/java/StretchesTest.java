/** Promises 15 to 17: stretches of the target that occur in the source. */
public final class StretchesTest {
    private static final Due CHECK = new Due("StretchesTest");

    public static void main(String[] args) {
        occurrences();
        occurrencesEmpty();
        occurrencesRefused();
        longest();
        CHECK.end();
    }

    private static void occurrences() {
        CopyAddDelta x = Due.made("0100010", "0102");
        CHECK.due("occurrences(0, 1)", x.occurrences(0, 1), 5);
        CHECK.due("occurrences(1, 2)", x.occurrences(1, 2), 2);
        CHECK.due("occurrences(2, 3)", x.occurrences(2, 3), 5);
        CHECK.due("occurrences(3, 4)", x.occurrences(3, 4), 0);
        CHECK.due("occurrences(0, 2)", x.occurrences(0, 2), 2);
        CHECK.due("occurrences(0, 3)", x.occurrences(0, 3), 2);
        CHECK.due("occurrences(1, 3)", x.occurrences(1, 3), 2);
        CHECK.due("occurrences(0, 4)", x.occurrences(0, 4), 0);
        CHECK.texts("occurrences", x, "0100010", "0102");

        // Places that overlap count each.
        CHECK.due("occurrences of 00 in 0000", Due.made("0000", "00").occurrences(0, 2), 3);
        CHECK.due("occurrences of 010 in 01010", Due.made("01010", "010").occurrences(0, 3), 2);
        CHECK.due("occurrences of 00 in 0", Due.made("0", "00").occurrences(0, 2), 0);
        CHECK.due("occurrences of 0 in nothing", Due.made("", "0").occurrences(0, 1), 0);
        CopyAddDelta full = Due.made("33333333333333333333333333333333", "333333333333333333333333");
        CHECK.due("occurrences of 24 in 32", full.occurrences(0, 24), 9);
        CHECK.due("occurrences of 1 in 32", full.occurrences(23, 24), 32);
    }

    private static void occurrencesEmpty() {
        for (int s = 0; s <= 32; s++) {
            CopyAddDelta x = Due.made("0".repeat(s), "12");
            for (int i = 0; i <= 2; i++) {
                CHECK.due("occurrences(" + i + ", " + i + ") at " + s, x.occurrences(i, i), s + 1);
            }
        }
        CopyAddDelta full = Due.made("0", "1".repeat(24));
        CHECK.due("occurrences(24, 24)", full.occurrences(24, 24), 2);
    }

    private static void occurrencesRefused() {
        CopyAddDelta x = Due.made("0123", "012");
        int min = Integer.MIN_VALUE;
        int max = Integer.MAX_VALUE;
        int[][] bad = {{-1, 0}, {-1, -1}, {-1, 3}, {1, 0}, {3, 2}, {0, 4}, {3, 4}, {4, 4}, {4, 3}, {0, -1},
            {min, 0}, {min, min}, {min, max}, {max, max}, {max, min}, {0, max}, {0, min}, {max, 0}};
        for (int[] a : bad) {
            CHECK.due("occurrences(" + a[0] + ", " + a[1] + ")", x.occurrences(a[0], a[1]), CopyAddDelta.BAD_ARG);
        }
        CHECK.texts("occurrences, refused", x, "0123", "012");
        CHECK.due("occurrences(0, 1), empty target", x.occurrences(0, 1), CopyAddDelta.BAD_ARG);
    }

    private static void longest() {
        longest("", "", 0, 0);
        longest("0123", "", 0, 0);
        longest("", "0123", 0, 0);
        longest("0", "3333", 0, 0);
        longest("0", "3330", 1, 3);
        longest("0", "0330", 1, 0);
        // The first of the longest ones.
        longest("0123", "3013012", 3, 4);
        longest("0123", "2012301230", 4, 1);
        // The longest one begins in the middle of a piece.
        longest("01123331", "0123331", 6, 1);
        longest("0123", "0123", 4, 0);
        // Longer than the source can't be.
        longest("00", "00000", 2, 0);
        longest("00000", "00", 2, 0);
        longest("0".repeat(32), "0".repeat(24), 24, 0);
        longest("0".repeat(32), "1" + "0".repeat(23), 23, 1);
        longest("2", "0".repeat(23) + "2", 1, 23);
    }

    private static void longest(String source, String target, int length, int at) {
        CopyAddDelta x = Due.made(source, target);
        String when = source + "/" + target;
        CHECK.due(when + ": longest()", x.longest(), length);
        CHECK.due(when + ": longestAt()", x.longestAt(), at);
        CHECK.texts(when, x, source, target);
    }
}
