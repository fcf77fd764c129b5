/** Promises 1 to 9: a new object, what changes the two texts, and their lengths. */
public final class TextsTest {
    private static final Due CHECK = new Due("TextsTest");
    private static final int MIN = Integer.MIN_VALUE;
    private static final int MAX = Integer.MAX_VALUE;

    public static void main(String[] args) {
        newObject();
        source();
        target();
        quote();
        quoteRefused();
        change();
        accept();
        acceptRefused();
        clearSource();
        clearTarget();
        lengths();
        twoObjects();
        CHECK.end();
    }

    private static void newObject() {
        CopyAddDelta x = new CopyAddDelta();
        CHECK.due("new: lengths()", x.lengths(), 0);
        CHECK.due("new: pieces()", x.pieces(), 0);
        CHECK.due("new: fewest()", x.fewest(), 0);
        CHECK.due("new: cheapest(100, 100)", x.cheapest(100, 100), 0);
        CHECK.due("new: occurrences(0, 0)", x.occurrences(0, 0), 1);
        CHECK.due("new: words()", x.words(), 0);
        CHECK.due("new: accept()", x.accept(), 0);
    }

    private static void source() {
        CopyAddDelta x = new CopyAddDelta();
        for (int n = 0; n < 32; n++) {
            for (int c : new int[] {-1, 4, MIN, MAX}) {
                CHECK.due("source(" + c + ") at " + n, x.source(c), CopyAddDelta.BAD_ARG);
            }
            CHECK.due("source at " + n, x.source(Due.S32.charAt(n) - '0'), n + 1);
        }
        for (int c = 0; c < 4; c++) {
            CHECK.due("source(" + c + ") when full", x.source(c), CopyAddDelta.FULL);
        }
        CHECK.due("source(4) when full", x.source(4), CopyAddDelta.BAD_ARG);
        CHECK.due("source(-1) when full", x.source(-1), CopyAddDelta.BAD_ARG);
        CHECK.texts("source, full", x, Due.S32, "");
    }

    private static void target() {
        CopyAddDelta x = new CopyAddDelta();
        for (int n = 0; n < 24; n++) {
            for (int c : new int[] {-1, 4, MIN, MAX}) {
                CHECK.due("target(" + c + ") at " + n, x.target(c), CopyAddDelta.BAD_ARG);
            }
            CHECK.due("target at " + n, x.target(Due.T24.charAt(n) - '0'), n + 1);
        }
        for (int c = 0; c < 4; c++) {
            CHECK.due("target(" + c + ") when full", x.target(c), CopyAddDelta.FULL);
        }
        CHECK.due("target(4) when full", x.target(4), CopyAddDelta.BAD_ARG);
        CHECK.due("target(-1) when full", x.target(-1), CopyAddDelta.BAD_ARG);
        CHECK.texts("target, full", x, "", Due.T24);
    }

    private static void quote() {
        CopyAddDelta x = Due.made("0123321", "2");
        CHECK.due("quote(0, 0)", x.quote(0, 0), 1);
        CHECK.due("quote(7, 0)", x.quote(7, 0), 1);
        CHECK.due("quote(2, 3)", x.quote(2, 3), 4);
        CHECK.due("quote(6, 1)", x.quote(6, 1), 5);
        CHECK.due("quote(0, 7)", x.quote(0, 7), 12);
        CHECK.texts("quote", x, "0123321", "223310123321");

        CopyAddDelta y = Due.made(Due.S32, "");
        CHECK.due("quote(8, 24)", y.quote(8, 24), 24);
        CHECK.due("quote(32, 0) when full", y.quote(32, 0), 24);
        CHECK.texts("quote, full", y, Due.S32, Due.S32.substring(8));
    }

    private static void quoteRefused() {
        CopyAddDelta x = Due.made("0123", Due.T24.substring(0, 22));
        int[][] bad = {{-1, 0}, {-1, 1}, {0, -1}, {2, -1}, {5, -1}, {5, 0}, {4, 1}, {0, 5}, {3, 2},
            {MAX, 1}, {1, MAX}, {MAX, MAX}, {MIN, 0}, {0, MIN}, {MIN, MIN}, {MIN, MAX}, {MAX, MIN},
            {MAX, 0}, {0, MAX}};
        for (int[] a : bad) {
            CHECK.due("quote(" + a[0] + ", " + a[1] + ")", x.quote(a[0], a[1]), CopyAddDelta.BAD_ARG);
        }
        CHECK.due("quote(0, 3), no room", x.quote(0, 3), CopyAddDelta.FULL);
        CHECK.due("quote(0, 5), bad and no room", x.quote(0, 5), CopyAddDelta.BAD_ARG);
        CHECK.due("quote(2, 2), just room", x.quote(2, 2), 24);
        CHECK.due("quote(0, 1), full", x.quote(0, 1), CopyAddDelta.FULL);
        CHECK.due("quote(4, 1), bad and full", x.quote(4, 1), CopyAddDelta.BAD_ARG);
        CHECK.texts("quote, refused", x, "0123", Due.T24.substring(0, 22) + "23");
    }

    private static void change() {
        CopyAddDelta x = Due.made("01", "0123");
        CHECK.due("change(0, 3)", x.change(0, 3), 0);
        CHECK.due("change(3, 0)", x.change(3, 0), 3);
        CHECK.due("change(1, 1)", x.change(1, 1), 1);
        CHECK.due("change(2, 1)", x.change(2, 1), 2);
        CHECK.due("change(2, 3)", x.change(2, 3), 1);
        for (int i : new int[] {-1, 4, 23, 24, MIN, MAX}) {
            CHECK.due("change(" + i + ", 0)", x.change(i, 0), CopyAddDelta.BAD_ARG);
        }
        for (int c : new int[] {-1, 4, MIN, MAX}) {
            CHECK.due("change(0, " + c + ")", x.change(0, c), CopyAddDelta.BAD_ARG);
            CHECK.due("change(4, " + c + ")", x.change(4, c), CopyAddDelta.BAD_ARG);
        }
        CHECK.texts("change", x, "01", "3130");
        CHECK.due("change(0, 0), empty target", x.change(0, 0), CopyAddDelta.BAD_ARG);
    }

    private static void accept() {
        CopyAddDelta x = Due.made("01", "3321");
        CHECK.due("accept()", x.accept(), 6);
        CHECK.due("lengths() after accept", x.lengths(), 6);
        CHECK.due("accept() of nothing", x.accept(), 6);
        CHECK.due("target(1) after accept", x.target(1), 1);
        CHECK.due("change(0, 1) after accept", x.change(0, 1), 1);
        CHECK.texts("accept", x, "013321", "1");

        CopyAddDelta y = Due.made(Due.S32.substring(0, 8), Due.T24);
        CHECK.due("accept() that fills", y.accept(), 32);
        CHECK.due("accept() of nothing when full", y.accept(), 32);
        CHECK.texts("accept, full", y, Due.S32.substring(0, 8) + Due.T24, "");
    }

    private static void acceptRefused() {
        CopyAddDelta x = Due.made(Due.S32.substring(0, 9), Due.T24);
        CHECK.due("accept(), one too many", x.accept(), CopyAddDelta.FULL);
        CHECK.texts("accept, one too many", x, Due.S32.substring(0, 9), Due.T24);

        CopyAddDelta y = Due.made(Due.S32, "2");
        CHECK.due("accept(), full", y.accept(), CopyAddDelta.FULL);
        CHECK.texts("accept, refused when full", y, Due.S32, "2");
    }

    private static void clearSource() {
        CopyAddDelta x = Due.made("0123", "012");
        x.clearSource();
        CHECK.due("quote(0, 1) after clearSource", x.quote(0, 1), CopyAddDelta.BAD_ARG);
        CHECK.due("occurrences(0, 1) after clearSource", x.occurrences(0, 1), 0);
        CHECK.due("words() after clearSource", x.words(), 0);
        x.clearSource();
        CHECK.due("source(3) after clearSource", x.source(3), 1);
        CHECK.due("occurrences(0, 1) after clearSource, source(3)", x.occurrences(0, 1), 0);
        CHECK.texts("clearSource", x, "3", "012");
    }

    private static void clearTarget() {
        CopyAddDelta x = Due.made("0123", "012");
        x.clearTarget();
        CHECK.due("change(0, 1) after clearTarget", x.change(0, 1), CopyAddDelta.BAD_ARG);
        CHECK.due("pieces() after clearTarget", x.pieces(), 0);
        CHECK.due("longest() after clearTarget", x.longest(), 0);
        CHECK.due("occurrences(0, 1) after clearTarget", x.occurrences(0, 1), CopyAddDelta.BAD_ARG);
        x.clearTarget();
        CHECK.due("target(3) after clearTarget", x.target(3), 1);
        CHECK.texts("clearTarget", x, "0123", "3");
    }

    private static void lengths() {
        CHECK.due("lengths() of 0 and 1", Due.made("", "0").lengths(), 64);
        CHECK.due("lengths() of 1 and 0", Due.made("0", "").lengths(), 1);
        CHECK.due("lengths() of 5 and 3", Due.made("01230", "012").lengths(), 197);
        CHECK.due("lengths() of 32 and 24", Due.made(Due.S32, Due.T24).lengths(), 32 + 64 * 24);
    }

    private static void twoObjects() {
        CopyAddDelta x = Due.made("01", "10");
        CopyAddDelta y = Due.made("23", "3");
        CHECK.texts("first of two objects", x, "01", "10");
        CHECK.texts("second of two objects", y, "23", "3");
    }
}
