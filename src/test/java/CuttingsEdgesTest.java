/** The edges that promises 13 and 14 name. */
public final class CuttingsEdgesTest {
    private static final Due CHECK = new Due("CuttingsEdgesTest");
    private static final Refusal REFUSED = new Refusal(CHECK);
    private static final int BAD_ARG = CopyAddDelta.BAD_ARG;
    private static final int MIN = Integer.MIN_VALUE;
    private static final int MAX = Integer.MAX_VALUE;

    public static void main(String[] args) {
        fewestOfNothing();
        fewestOfAnEmptySource();
        fewestOfOneLetter();
        fewestWhenFull();
        cheapestOfNothing();
        cheapestOfAnEmptySource();
        copyOutOfItsRange();
        addOutOfItsRange();
        bothOutOfTheirRange();
        outOfRangeOfNothing();
        pricesAtTheirEnds();
        oneLetterPaidEitherWay();
        oneLetterThatDoesNotOccur();
        cheapestWhenFull();
        CHECK.end();
    }

    /** Promise 13: "(0 for the empty target)", whatever the source. */
    private static void fewestOfNothing() {
        for (int s = 0; s <= 32; s++) {
            CHECK.due("fewest() of nothing at s = " + s, Due.made(Due.S32.substring(0, s), "").fewest(), 0);
        }
        CopyAddDelta emptied = Due.made(Due.S32, Due.T24);
        CHECK.due("fewest() of 24 letters", emptied.fewest(), 24);
        emptied.clearTarget();
        CHECK.due("fewest() of an emptied target", emptied.fewest(), 0);
    }

    /** Promise 13: "each part has one letter or occurs": of the empty source, each has one letter. */
    private static void fewestOfAnEmptySource() {
        for (int t = 0; t <= 24; t++) {
            CHECK.due("fewest() of an empty source at t = " + t, Due.made("", Due.T24.substring(0, t)).fewest(), t);
        }
    }

    /** Promise 13: a part of one letter is one part, whether it occurs or not. */
    private static void fewestOfOneLetter() {
        CHECK.due("fewest() of one that occurs", Due.made("0", "0").fewest(), 1);
        CHECK.due("fewest() of one that doesn't", Due.made("0", "1").fewest(), 1);
        CHECK.due("fewest() of both", Due.made("0", "01").fewest(), 2);
    }

    /** Promise 13, of full texts: from 1 part to 24. */
    private static void fewestWhenFull() {
        CHECK.due("fewest(), one part", Due.made(Due.S32, Due.S32.substring(8)).fewest(), 1);
        CHECK.due("fewest(), 24 parts", Due.made("0".repeat(32), "1".repeat(24)).fewest(), 24);
        CHECK.due("fewest(), 24 parts that occur", Due.made("0".repeat(31) + "1", "1".repeat(24)).fewest(), 24);
    }

    /** Promise 14: "0 for the empty target", at all prices. */
    private static void cheapestOfNothing() {
        for (int copy = 0; copy <= 100; copy++) {
            CopyAddDelta x = new CopyAddDelta();
            CopyAddDelta y = Due.made(Due.S32, "");
            for (int add = 0; add <= 100; add++) {
                String call = "cheapest(" + copy + ", " + add + ") of nothing";
                CHECK.due(call, x.cheapest(copy, add), 0);
                CHECK.due(call + " with a full source", y.cheapest(copy, add), 0);
            }
        }
        CopyAddDelta emptied = Due.made(Due.S32, Due.T24);
        emptied.cheapest(100, 100);
        emptied.clearTarget();
        CHECK.due("cheapest(100, 100) of an emptied target", emptied.cheapest(100, 100), 0);
    }

    /** Promise 14: no part occurs in the empty source, so each letter is added, however cheap a copy were. */
    private static void cheapestOfAnEmptySource() {
        for (int t = 0; t <= 24; t++) {
            CopyAddDelta x = Due.made("", Due.T24.substring(0, t));
            CHECK.due("cheapest(0, 7) of an empty source at t = " + t, x.cheapest(0, 7), 7 * t);
        }
    }

    /** Promise 14: "BAD_ARG if copy ... is not 0 to 100". */
    private static void copyOutOfItsRange() {
        for (int copy : new int[] {-1, 101, MIN, MAX}) {
            REFUSED.due("0123", "01233", Call.CHEAPEST, copy, 1, BAD_ARG);
            REFUSED.due(Due.S32, Due.T24, Call.CHEAPEST, copy, 100, BAD_ARG);
        }
        for (int copy : Ints.many()) {
            int got = Due.made("0123", "012").cheapest(copy, 50);
            CHECK.due("cheapest(" + copy + ", 50)", got, copy < 0 || copy > 100 ? BAD_ARG : copy);
        }
    }

    /** Promise 14: "BAD_ARG if ... add is not 0 to 100". */
    private static void addOutOfItsRange() {
        for (int add : new int[] {-1, 101, MIN, MAX}) {
            REFUSED.due("0123", "01233", Call.CHEAPEST, 1, add, BAD_ARG);
            REFUSED.due(Due.S32, Due.T24, Call.CHEAPEST, 100, add, BAD_ARG);
        }
        for (int add : Ints.many()) {
            int got = Due.made("0123", "012").cheapest(100, add);
            CHECK.due("cheapest(100, " + add + ")", got, add < 0 || add > 100 ? BAD_ARG : Math.min(100, 3 * add));
        }
    }

    /** Promise 14: both at once, also where one wrong price would make up for the other. */
    private static void bothOutOfTheirRange() {
        for (int[] a : new int[][] {{-1, -1}, {101, 101}, {-1, 101}, {101, -1}, {MIN, MIN}, {MAX, MAX}, {MIN, MAX}}) {
            REFUSED.due("0123", "01233", Call.CHEAPEST, a[0], a[1], BAD_ARG);
        }
    }

    /** Promise 14: the same for the empty target, though no part would be paid. */
    private static void outOfRangeOfNothing() {
        for (int bad : new int[] {-1, 101, MIN, MAX}) {
            REFUSED.due("", "", Call.CHEAPEST, bad, 0, BAD_ARG);
            REFUSED.due("", "", Call.CHEAPEST, 0, bad, BAD_ARG);
            REFUSED.due("0123", "", Call.CHEAPEST, bad, 100, BAD_ARG);
            REFUSED.due("0123", "", Call.CHEAPEST, 100, bad, BAD_ARG);
        }
    }

    /** Promise 14: 0 and 100 are prices. */
    private static void pricesAtTheirEnds() {
        // 0123 can be copied, then 3 is copied or added.
        CopyAddDelta x = Due.made("0123", "01233");
        CHECK.due("cheapest(0, 0)", x.cheapest(0, 0), 0);
        CHECK.due("cheapest(0, 100)", x.cheapest(0, 100), 0);
        CHECK.due("cheapest(100, 0)", x.cheapest(100, 0), 0);
        CHECK.due("cheapest(100, 100)", x.cheapest(100, 100), 200);
        CHECK.due("cheapest(100, 99)", x.cheapest(100, 99), 199);
        CHECK.due("cheapest(99, 100)", x.cheapest(99, 100), 198);
    }

    /** Promise 14: "(a part of one letter that occurs may be paid either way)". */
    private static void oneLetterPaidEitherWay() {
        CopyAddDelta x = Due.made("0", "0");
        CHECK.due("cheapest(3, 7) of one that occurs", x.cheapest(3, 7), 3);
        CHECK.due("cheapest(7, 3) of one that occurs", x.cheapest(7, 3), 3);
        CHECK.due("cheapest(0, 100) of one that occurs", x.cheapest(0, 100), 0);
        CHECK.due("cheapest(100, 0) of one that occurs", x.cheapest(100, 0), 0);
        CHECK.due("cheapest(5, 5) of one that occurs", x.cheapest(5, 5), 5);
        CopyAddDelta many = Due.made("01", "1100");
        CHECK.due("cheapest(2, 3) of four that occur", many.cheapest(2, 3), 8);
        CHECK.due("cheapest(3, 2) of four that occur", many.cheapest(3, 2), 8);
    }

    /** Promise 14: one that doesn't occur is paid as added alone. */
    private static void oneLetterThatDoesNotOccur() {
        CopyAddDelta x = Due.made("0", "1");
        CHECK.due("cheapest(3, 7) of one that doesn't occur", x.cheapest(3, 7), 7);
        CHECK.due("cheapest(7, 3) of one that doesn't occur", x.cheapest(7, 3), 3);
        CHECK.due("cheapest(0, 100) of one that doesn't occur", x.cheapest(0, 100), 100);
    }

    /** Promise 14, of full texts: the greatest cost there is, and one copy of it all. */
    private static void cheapestWhenFull() {
        CHECK.due("cheapest(0, 100), 24 added", Due.made("0".repeat(32), "1".repeat(24)).cheapest(0, 100), 2400);
        CopyAddDelta x = Due.made(Due.S32, Due.S32.substring(8));
        CHECK.due("cheapest(100, 100), one copy", x.cheapest(100, 100), 100);
        CHECK.due("cheapest(96, 4), one copy or 24 added", x.cheapest(96, 4), 96);
        CHECK.due("cheapest(97, 4), 24 added", x.cheapest(97, 4), 96);
    }
}
