/** The edges that promises 1 to 3 and 5 to 9 name. */
public final class TextsEdgesTest {
    private static final Due CHECK = new Due("TextsEdgesTest");
    private static final Refusal REFUSED = new Refusal(CHECK);
    private static final int BAD_ARG = CopyAddDelta.BAD_ARG;
    private static final int FULL = CopyAddDelta.FULL;
    private static final int MIN = Integer.MIN_VALUE;
    private static final int MAX = Integer.MAX_VALUE;

    public static void main(String[] args) {
        newObject();
        newObjectAfterOthers();
        sourceOfNoLetter();
        sourceWhenFull();
        sourceOfNoLetterWhenFull();
        sourceThatJustFits();
        targetOfNoLetter();
        targetWhenFull();
        targetOfNoLetterWhenFull();
        targetThatJustFits();
        changeOfNoPlace();
        changeToNoLetter();
        changeOfNoPlaceToNoLetter();
        changeAtBothEnds();
        changeToTheSameLetter();
        acceptTooMany();
        acceptAtEachLength();
        acceptOfNothing();
        acceptEmptiesTheTarget();
        clearSourceOfNothing();
        clearSourceWhenFull();
        clearTargetOfNothing();
        clearTargetWhenFull();
        lengthsAtEachLength();
        CHECK.end();
    }

    /** Promise 1: "Both texts are empty." */
    private static void newObject() {
        CopyAddDelta x = new CopyAddDelta();
        CHECK.due("new: lengths()", x.lengths(), 0);
        CHECK.due("new: pieces()", x.pieces(), 0);
        CHECK.due("new: pieceLength(0)", x.pieceLength(0), CopyAddDelta.NONE);
        CHECK.due("new: pieceFrom(0)", x.pieceFrom(0), CopyAddDelta.NONE);
        CHECK.due("new: fewest()", x.fewest(), 0);
        CHECK.due("new: cheapest(1, 1)", x.cheapest(1, 1), 0);
        CHECK.due("new: occurrences(0, 0)", x.occurrences(0, 0), 1);
        CHECK.due("new: occurrences(0, 1)", x.occurrences(0, 1), BAD_ARG);
        CHECK.due("new: longest()", x.longest(), 0);
        CHECK.due("new: longestAt()", x.longestAt(), 0);
        CHECK.due("new: words()", x.words(), 0);
        CHECK.due("new: wordsOf(1)", x.wordsOf(1), 0);
        CHECK.due("new: shortestAbsent()", x.shortestAbsent(), 1);
        CHECK.due("new: longestRepeat()", x.longestRepeat(), 0);
        CHECK.due("new: change(0, 0)", x.change(0, 0), BAD_ARG);
        CHECK.due("new: quote(0, 1)", x.quote(0, 1), BAD_ARG);
        CHECK.due("new: quote(0, 0)", x.quote(0, 0), 0);
        CHECK.due("new: accept()", x.accept(), 0);
        CHECK.due("new: source(0)", x.source(0), 1);
        CHECK.due("new: target(0)", new CopyAddDelta().target(0), 1);
    }

    /** The same, whatever was done with another object before or is done afterwards. */
    private static void newObjectAfterOthers() {
        CopyAddDelta other = Due.made(Due.S32, Due.T24);
        CopyAddDelta x = new CopyAddDelta();
        CHECK.due("beside another: lengths()", x.lengths(), 0);
        CHECK.due("beside another: words()", x.words(), 0);
        other.clearTarget();
        other.target(3);
        CHECK.due("beside another, later: lengths()", x.lengths(), 0);
        x.source(1);
        x.target(2);
        CHECK.texts("another", other, Due.S32, "3");
        CHECK.texts("beside another", x, "1", "2");
    }

    /** Promise 2: "c not 0 to 3 answers BAD_ARG". */
    private static void sourceOfNoLetter() {
        noLetter(Call.SOURCE, "", "");
        noLetter(Call.SOURCE, "0123", "3210");
        noLetter(Call.SOURCE, Due.S32.substring(1), Due.T24);
    }

    /** Promise 2: "s is 32 answers FULL". */
    private static void sourceWhenFull() {
        for (int c = 0; c <= 3; c++) {
            REFUSED.due(Due.S32, "", Call.SOURCE, c, FULL);
            REFUSED.due(Due.S32, Due.T24, Call.SOURCE, c, FULL);
        }
    }

    /** Promise 2: "Tested in this order": BAD_ARG comes before FULL. */
    private static void sourceOfNoLetterWhenFull() {
        noLetter(Call.SOURCE, Due.S32, "0123");
    }

    /** Promise 2: "Otherwise the new s", to the 32nd letter, whatever the target's length. */
    private static void sourceThatJustFits() {
        CopyAddDelta x = Due.made(Due.S32.substring(0, 31), Due.T24);
        CHECK.due("source(3), the last that fits", x.source(3), 32);
        CHECK.texts("source, just full", x, Due.S32, Due.T24);
    }

    /** Promise 3: "c not 0 to 3 answers BAD_ARG". */
    private static void targetOfNoLetter() {
        noLetter(Call.TARGET, "", "");
        noLetter(Call.TARGET, "0123", "3210");
        noLetter(Call.TARGET, Due.S32, Due.T24.substring(1));
    }

    /** Promise 3: "t is 24 answers FULL". */
    private static void targetWhenFull() {
        for (int c = 0; c <= 3; c++) {
            REFUSED.due("", Due.T24, Call.TARGET, c, FULL);
            REFUSED.due(Due.S32, Due.T24, Call.TARGET, c, FULL);
        }
    }

    /** Promise 3: "Tested in this order": BAD_ARG comes before FULL. */
    private static void targetOfNoLetterWhenFull() {
        noLetter(Call.TARGET, "0123", Due.T24);
    }

    /** Promise 3: "Otherwise the new t", to the 24th letter, whatever the source's length. */
    private static void targetThatJustFits() {
        CopyAddDelta x = Due.made(Due.S32, Due.T24.substring(0, 23));
        CHECK.due("target(0), the last that fits", x.target(0), 24);
        CHECK.texts("target, just full", x, Due.S32, Due.T24);
    }

    private static void noLetter(Call append, String source, String target) {
        for (int c : new int[] {-1, 4, MIN, MAX}) {
            REFUSED.due(source, target, append, c, BAD_ARG);
        }
        for (int c : Ints.many()) {
            if (c < 0 || c > 3) {
                Beside both = new Beside(CHECK, source + "/" + target, source, target);
                both.refused(append, c, 0, BAD_ARG);
                both.ask(Call.LENGTHS);
            }
        }
    }

    /** Promise 5: "BAD_ARG if there is no such place". */
    private static void changeOfNoPlace() {
        for (String target : new String[] {"", "2", "0123", Due.T24}) {
            int t = target.length();
            for (int i : new int[] {-1, t, t + 1, MIN, MAX}) {
                REFUSED.due("0123", target, Call.CHANGE, i, 1, BAD_ARG);
            }
            for (int i : Ints.many()) {
                if (i < 0 || i >= t) {
                    CHECK.due(target + ": change(" + i + ", 1)", Due.made("0", target).change(i, 1), BAD_ARG);
                }
            }
        }
    }

    /** Promise 5: "or c is not 0 to 3". */
    private static void changeToNoLetter() {
        for (int c : new int[] {-1, 4, MIN, MAX}) {
            REFUSED.due("0123", "3210", Call.CHANGE, 0, c, BAD_ARG);
            REFUSED.due("0123", Due.T24, Call.CHANGE, 23, c, BAD_ARG);
        }
        for (int c : Ints.many()) {
            if (c < 0 || c > 3) {
                CHECK.due("change(1, " + c + ")", Due.made("0", "0123").change(1, c), BAD_ARG);
            }
        }
    }

    /** Promise 5: both at once. */
    private static void changeOfNoPlaceToNoLetter() {
        REFUSED.due("0123", "", Call.CHANGE, 0, 4, BAD_ARG);
        REFUSED.due("0123", "3210", Call.CHANGE, 4, -1, BAD_ARG);
        REFUSED.due("0123", "3210", Call.CHANGE, -1, 4, BAD_ARG);
    }

    /** Promise 5: "Otherwise the letter before": the first place and the last one are places. */
    private static void changeAtBothEnds() {
        CopyAddDelta one = Due.made("3", "3");
        CHECK.due("change(0, 2) of one letter", one.change(0, 2), 3);
        CHECK.texts("change of one letter", one, "3", "2");
        CopyAddDelta full = Due.made(Due.S32, Due.T24);
        CHECK.due("change(0, 0) of 24 letters", full.change(0, 0), 3);
        CHECK.due("change(23, 3) of 24 letters", full.change(23, 3), 0);
        CHECK.texts("change of 24 letters", full, Due.S32, "0" + Due.T24.substring(1, 23) + "3");
    }

    /** Promise 5: "Makes c the letter at place i", also when it is c already. */
    private static void changeToTheSameLetter() {
        CopyAddDelta x = Due.made("", "0123");
        for (int c = 0; c <= 3; c++) {
            CHECK.due("change(" + c + ", " + c + ")", x.change(c, c), c);
        }
        CHECK.texts("change to the same", x, "", "0123");
    }

    /** Promise 6: "FULL if the source would have more than 32 letters": then both texts stay. */
    private static void acceptTooMany() {
        REFUSED.due(Due.S32.substring(0, 9), Due.T24, Call.ACCEPT, 0, FULL);
        REFUSED.due(Due.S32.substring(0, 20), Due.T24.substring(0, 13), Call.ACCEPT, 0, FULL);
        REFUSED.due(Due.S32.substring(0, 31), "21", Call.ACCEPT, 0, FULL);
        REFUSED.due(Due.S32, "2", Call.ACCEPT, 0, FULL);
        REFUSED.due(Due.S32, Due.T24, Call.ACCEPT, 0, FULL);
    }

    /** Promise 6: the same bound and "Otherwise the new s", at every two lengths. */
    private static void acceptAtEachLength() {
        for (int s = 0; s <= 32; s++) {
            for (int t = 0; t <= 24; t++) {
                CopyAddDelta x = Due.made(Due.S32.substring(0, s), Due.T24.substring(0, t));
                String when = "s = " + s + ", t = " + t;
                CHECK.due(when + ": accept()", x.accept(), s + t > 32 ? FULL : s + t);
                if (s + t > 32) {
                    CHECK.texts(when + ", refused", x, Due.S32.substring(0, s), Due.T24.substring(0, t));
                } else {
                    CHECK.texts(when + ", accepted", x, Due.S32.substring(0, s) + Due.T24.substring(0, t), "");
                }
            }
        }
    }

    /** Promise 6: of an empty target, "the new s" is the old one, 32 too. */
    private static void acceptOfNothing() {
        CHECK.due("accept() of nothing by nothing", new CopyAddDelta().accept(), 0);
        CopyAddDelta x = Due.made(Due.S32, "");
        CHECK.due("accept() of nothing by 32", x.accept(), 32);
        CHECK.texts("accept of nothing by 32", x, Due.S32, "");
    }

    /** Promise 6: "and empties the target", so that it can be filled anew. */
    private static void acceptEmptiesTheTarget() {
        CopyAddDelta x = Due.made("01230123", Due.T24);
        CHECK.due("accept() of 24", x.accept(), 32);
        CHECK.due("pieces() of the emptied target", x.pieces(), 0);
        CHECK.due("change(0, 0) of the emptied target", x.change(0, 0), BAD_ARG);
        for (int t = 1; t <= 24; t++) {
            CHECK.due("target(1) after accept", x.target(1), t);
        }
        CHECK.due("target(1) after 24 more", x.target(1), FULL);
        CHECK.texts("accept and 24 more", x, "01230123" + Due.T24, "1".repeat(24));
    }

    /** Promise 7: "Empties the source", also one that is empty. */
    private static void clearSourceOfNothing() {
        CopyAddDelta x = Due.made("", "0123");
        x.clearSource();
        x.clearSource();
        CHECK.due("lengths() after clearSource of nothing", x.lengths(), 64 * 4);
        CHECK.due("source(2) after clearSource of nothing", x.source(2), 1);
        CHECK.texts("clearSource of nothing", x, "2", "0123");
    }

    /** Promise 7: the full one too, and the target stays. */
    private static void clearSourceWhenFull() {
        CopyAddDelta x = Due.made(Due.S32, Due.T24);
        x.clearSource();
        CHECK.due("lengths() after clearSource", x.lengths(), 64 * 24);
        CHECK.due("words() after clearSource", x.words(), 0);
        CHECK.due("occurrences(0, 0) after clearSource", x.occurrences(0, 0), 1);
        CHECK.due("quote(0, 1) after clearSource", x.quote(0, 1), BAD_ARG);
        Due.appendSource(x, "1".repeat(32));
        CHECK.due("source(1) after 32 more", x.source(1), FULL);
        CHECK.texts("clearSource when full", x, "1".repeat(32), Due.T24);
    }

    /** Promise 8: "Empties the target", also one that is empty. */
    private static void clearTargetOfNothing() {
        CopyAddDelta x = Due.made("0123", "");
        x.clearTarget();
        x.clearTarget();
        CHECK.due("lengths() after clearTarget of nothing", x.lengths(), 4);
        CHECK.due("target(2) after clearTarget of nothing", x.target(2), 1);
        CHECK.texts("clearTarget of nothing", x, "0123", "2");
    }

    /** Promise 8: the full one too, and the source stays. */
    private static void clearTargetWhenFull() {
        CopyAddDelta x = Due.made(Due.S32, Due.T24);
        x.clearTarget();
        CHECK.due("lengths() after clearTarget", x.lengths(), 32);
        CHECK.due("pieces() after clearTarget", x.pieces(), 0);
        CHECK.due("change(0, 0) after clearTarget", x.change(0, 0), BAD_ARG);
        CHECK.due("accept() after clearTarget", x.accept(), 32);
        Due.appendTarget(x, "1".repeat(24));
        CHECK.due("target(1) after 24 more", x.target(1), FULL);
        CHECK.texts("clearTarget when full", x, Due.S32, "1".repeat(24));
    }

    /** Promise 9: "s + 64 t", from both texts empty to both full. */
    private static void lengthsAtEachLength() {
        for (int s = 0; s <= 32; s++) {
            for (int t = 0; t <= 24; t++) {
                CopyAddDelta x = Due.made(Due.S32.substring(0, s), Due.T24.substring(0, t));
                CHECK.due("lengths() at s = " + s + ", t = " + t, x.lengths(), s + 64 * t);
            }
        }
        CHECK.due("lengths() when both are full", Due.made(Due.S32, Due.T24).lengths(), 1568);
    }
}
