/** Promises 13 and 14: the cuttings of the target. */
public final class CuttingsTest {
    private static final Due CHECK = new Due("CuttingsTest");

    public static void main(String[] args) {
        fewest();
        cheapest();
        cheapestEdges();
        cheapestRefused();
        CHECK.end();
    }

    private static void fewest() {
        fewest("", "", 0);
        fewest("0123", "", 0);
        fewest("", "0000", 4);
        fewest("0123", "0123", 1);
        fewest("0123", "01230123", 2);
        fewest("012", "0132", 3);
        fewest("0", "00000", 5);
        fewest("0121230", "01230", 2);
        fewest("00000000000000000000000000000000", "000000000000000000000000", 1);
        fewest("00000000000000000000000000000000", "111111111111111111111111", 24);
        // 01010, 1010 and 1: no two parts reach over ten letters but 01010 twice.
        fewest("01010", "0101010101", 3);
        fewest("01010", "0101001010", 2);
        fewest("3012", "3013012", 2);
    }

    private static void fewest(String source, String target, int want) {
        CopyAddDelta x = Due.made(source, target);
        String when = source + "/" + target;
        CHECK.due(when + ": fewest()", x.fewest(), want);
        CHECK.due(when + ": fewest() after another", x.fewest(), want);
        CHECK.due(when + ": cheapest(1, 1)", x.cheapest(1, 1), want);
        CHECK.texts(when, x, source, target);
    }

    private static void cheapest() {
        // 012 copied and 3 added.
        cheapest("012", "0123", 5, 2, 7);
        // All added, as two letters cost less than a copy.
        cheapest("012", "013", 5, 2, 6);
        // A letter that occurs, copied as that is cheaper than adding it.
        cheapest("0", "0", 3, 7, 3);
        // The same letter, added as that is cheaper.
        cheapest("0", "0", 7, 3, 3);
        // A letter that doesn't occur can't be copied, however cheap.
        cheapest("0", "1", 0, 9, 9);
        cheapest("", "0123", 1, 9, 36);
        // 01123 copied, 3 and 0 added.
        cheapest("0112301", "0112330", 4, 1, 6);
        // The copy that pays begins in the middle of the longest first piece.
        cheapest("01212333", "012333", 3, 1, 4);
        // Two copies that share no letter, and a letter between.
        cheapest("0123", "01230012", 2, 3, 6);
        cheapest("0123", "012300123", 1, 100, 3);
    }

    private static void cheapestEdges() {
        cheapest("", "", 100, 100, 0);
        cheapest("0123", "", 100, 100, 0);
        cheapest("0123", "0123", 0, 0, 0);
        cheapest("0123", "0123", 0, 100, 0);
        cheapest("0123", "0123", 100, 0, 0);
        cheapest("0123", "0123", 100, 100, 100);
        cheapest("0123", "111111111111111111111111", 100, 100, 2400);
        cheapest("0", "111111111111111111111111", 0, 100, 2400);
        cheapest("1", "111111111111111111111111", 100, 99, 2376);
        cheapest("1", "111111111111111111111111", 99, 100, 2376);
        cheapest("11111111111111111111111111111111", "111111111111111111111111", 100, 5, 100);
        cheapest("11111111111111111111111111111111", "111111111111111111111111", 100, 4, 96);
    }

    private static void cheapestRefused() {
        CopyAddDelta x = Due.made("0123", "012");
        CopyAddDelta empty = new CopyAddDelta();
        for (int bad : new int[] {-1, 101, Integer.MIN_VALUE, Integer.MAX_VALUE}) {
            for (int other : new int[] {0, 1, 100, -1, 101}) {
                String pair = bad + " and " + other;
                CHECK.due("cheapest, " + pair, x.cheapest(bad, other), CopyAddDelta.BAD_ARG);
                CHECK.due("cheapest, turned, " + pair, x.cheapest(other, bad), CopyAddDelta.BAD_ARG);
                CHECK.due("cheapest, empty, " + pair, empty.cheapest(bad, other), CopyAddDelta.BAD_ARG);
                CHECK.due("cheapest, empty, turned, " + pair, empty.cheapest(other, bad), CopyAddDelta.BAD_ARG);
            }
        }
        CHECK.due("fewest() after refusals", x.fewest(), 1);
        CHECK.texts("cheapest, refused", x, "0123", "012");
    }

    private static void cheapest(String source, String target, int copy, int add, int want) {
        CopyAddDelta x = Due.made(source, target);
        String when = source + "/" + target;
        String call = when + ": cheapest(" + copy + ", " + add + ")";
        CHECK.due(call, x.cheapest(copy, add), want);
        x.cheapest(100, 100);
        CHECK.due(call + " after another", x.cheapest(copy, add), want);
        CHECK.texts(when, x, source, target);
    }
}
