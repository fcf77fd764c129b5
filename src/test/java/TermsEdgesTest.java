/** The edges that 'Terms' names for letters, texts, stretches, words and pieces. */
public final class TermsEdgesTest {
    private static final Due CHECK = new Due("TermsEdgesTest");
    private static final int NONE = CopyAddDelta.NONE;
    private static final int BAD_ARG = CopyAddDelta.BAD_ARG;

    public static void main(String[] args) {
        letters();
        lengthsOfTheSource();
        lengthsOfTheTarget();
        placesBeginAtNothing();
        stretches();
        wordsAtTheSourcesEnd();
        wordsOverTheSourcesEnd();
        lettersThatWereInTheSource();
        lettersThatWereInTheTarget();
        newLetters();
        letterThatIsNotNew();
        lastPieceEndsWithTheTarget();
        CHECK.end();
    }

    /** "LETTERS are 0 to 3." */
    private static void letters() {
        CopyAddDelta x = new CopyAddDelta();
        for (int c = 0; c <= 3; c++) {
            CHECK.due("source(" + c + ")", x.source(c), c + 1);
            CHECK.due("target(" + c + ")", x.target(c), c + 1);
        }
        for (int c : new int[] {-1, 4}) {
            CHECK.due("source(" + c + ")", x.source(c), BAD_ARG);
            CHECK.due("target(" + c + ")", x.target(c), BAD_ARG);
            CHECK.due("change(0, " + c + ")", x.change(0, c), BAD_ARG);
        }
        for (int c = 0; c <= 3; c++) {
            CHECK.due("change(" + c + ", " + (3 - c) + ")", x.change(c, 3 - c), c);
        }
        CHECK.texts("letters", x, "0123", "3210");
    }

    /** "The SOURCE has s letters, 0 <= s <= 32". */
    private static void lengthsOfTheSource() {
        CopyAddDelta x = new CopyAddDelta();
        for (int s = 0; s <= 32; s++) {
            CHECK.due("lengths() at s = " + s, x.lengths(), s);
            CHECK.due("source(1) at s = " + s, x.source(1), s < 32 ? s + 1 : CopyAddDelta.FULL);
        }
        CHECK.due("lengths() after a source that was full", x.lengths(), 32);
    }

    /** "the TARGET t letters, 0 <= t <= 24". */
    private static void lengthsOfTheTarget() {
        CopyAddDelta x = new CopyAddDelta();
        for (int t = 0; t <= 24; t++) {
            CHECK.due("lengths() at t = " + t, x.lengths(), 64 * t);
            CHECK.due("target(1) at t = " + t, x.target(1), t < 24 ? t + 1 : CopyAddDelta.FULL);
        }
        CHECK.due("lengths() after a target that was full", x.lengths(), 64 * 24);
    }

    /** "places begin at 0". */
    private static void placesBeginAtNothing() {
        CopyAddDelta x = Due.made("23", "2");
        CHECK.due("pieceFrom(0)", x.pieceFrom(0), 0);
        CHECK.due("longestAt()", x.longestAt(), 0);
        CHECK.due("occurrences(0, 1)", x.occurrences(0, 1), 1);
        CHECK.due("quote(0, 1)", x.quote(0, 1), 2);
        CHECK.due("change(0, 1)", x.change(0, 1), 2);
        CHECK.due("change(1, 1)", x.change(1, 1), 2);
    }

    /** "The stretch (i, j) of the target, 0 <= i <= j <= t": these and no others. */
    private static void stretches() {
        for (int t = 0; t <= 24; t++) {
            for (int i = -2; i <= t + 2; i++) {
                CopyAddDelta x = Due.made("0", "1".repeat(t));
                for (int j = -2; j <= t + 2; j++) {
                    boolean is = 0 <= i && i <= j && j <= t;
                    // Of the source 0, the empty word occurs twice, and a word of ones nowhere.
                    CHECK.due("occurrences(" + i + ", " + j + ") at t = " + t, x.occurrences(i, j),
                            !is ? BAD_ARG : i == j ? 2 : 0);
                }
            }
        }
    }

    /** "OCCURS ... if the source's letters from place k on begin with it": at its end too. */
    private static void wordsAtTheSourcesEnd() {
        CopyAddDelta x = Due.made("0".repeat(29) + "123", "0123");
        CHECK.due("occurrences(1, 4) at the end", x.occurrences(1, 4), 1);
        CHECK.due("occurrences(3, 4) at the end", x.occurrences(3, 4), 1);
        CHECK.due("pieceFrom(0) at the end", x.pieceFrom(0), 28);
        CHECK.due("longest() at the end", x.longest(), 4);
    }

    /** The same: a word that would go on behind the source's end, or again at its begin, doesn't occur. */
    private static void wordsOverTheSourcesEnd() {
        CopyAddDelta x = Due.made("0012", "1200");
        CHECK.due("occurrences(0, 3) over the end", x.occurrences(0, 3), 0);
        CHECK.due("occurrences(1, 3) over the end", x.occurrences(1, 3), 0);
        CHECK.due("pieceLength(0) over the end", x.pieceLength(0), 2);
        CHECK.due("longest() over the end", x.longest(), 2);
        CHECK.due("fewest() over the end", x.fewest(), 2);
        CHECK.due("wordsOf(3) over the end", x.wordsOf(3), 2);
    }

    /** The same: letters that the source had before it was emptied aren't its letters. */
    private static void lettersThatWereInTheSource() {
        CopyAddDelta x = Due.made("01010101", "010");
        x.clearSource();
        Due.appendSource(x, "01");
        CHECK.due("occurrences(0, 1) of what was", x.occurrences(0, 1), 1);
        CHECK.due("occurrences(0, 3) of what was", x.occurrences(0, 3), 0);
        CHECK.due("occurrences(3, 3) of what was", x.occurrences(3, 3), 3);
        CHECK.due("pieces() of what was", x.pieces(), 2);
        CHECK.due("pieceLength(0) of what was", x.pieceLength(0), 2);
        CHECK.due("longest() of what was", x.longest(), 2);
        CHECK.due("fewest() of what was", x.fewest(), 2);
        CHECK.due("cheapest(1, 1) of what was", x.cheapest(1, 1), 2);
        CHECK.due("words() of what was", x.words(), 3);
        CHECK.due("wordsOf(3) of what was", x.wordsOf(3), 0);
        CHECK.due("longestRepeat() of what was", x.longestRepeat(), 0);
        CHECK.due("quote(2, 1) of what was", x.quote(2, 1), BAD_ARG);
    }

    /** "The stretch (i, j) of the target": letters that the target had before it was emptied aren't its letters. */
    private static void lettersThatWereInTheTarget() {
        CopyAddDelta x = Due.made("0123", "0123");
        x.clearTarget();
        Due.appendTarget(x, "01");
        CHECK.due("occurrences(0, 3) of what was", x.occurrences(0, 3), BAD_ARG);
        CHECK.due("pieces() of what was", x.pieces(), 1);
        CHECK.due("pieceLength(0) of what was", x.pieceLength(0), 2);
        CHECK.due("pieceLength(1) of what was", x.pieceLength(1), NONE);
        CHECK.due("longest() of what was", x.longest(), 2);
        CHECK.due("fewest() of what was", x.fewest(), 1);
        CHECK.due("cheapest(9, 2) of what was", x.cheapest(9, 2), 4);
        CHECK.due("change(2, 0) of what was", x.change(2, 0), BAD_ARG);
    }

    /** "if there is none, it is the stretch (i, i + 1), a NEW letter": one letter, though the next is new too. */
    private static void newLetters() {
        CopyAddDelta x = Due.made("01", "2230132");
        int[] lengths = {1, 1, 1, 2, 1, 1};
        int[] places = {NONE, NONE, NONE, 0, NONE, NONE};
        CHECK.due("pieces() with new letters", x.pieces(), 6);
        for (int p = 0; p < 6; p++) {
            CHECK.due("pieceLength(" + p + ") with new letters", x.pieceLength(p), lengths[p]);
            CHECK.due("pieceFrom(" + p + ") with new letters", x.pieceFrom(p), places[p]);
        }
    }

    /** The same: a letter that occurs, alone, is a piece of one letter and isn't new. */
    private static void letterThatIsNotNew() {
        CopyAddDelta x = Due.made("0", "0");
        CHECK.due("pieceLength(0) of one that occurs", x.pieceLength(0), 1);
        CHECK.due("pieceFrom(0) of one that occurs", x.pieceFrom(0), 0);
    }

    /** "until the target is at its end": the last piece stops there, though the source goes on. */
    private static void lastPieceEndsWithTheTarget() {
        CopyAddDelta x = Due.made("0123", "01230");
        CHECK.due("pieces() to the end", x.pieces(), 2);
        CHECK.due("pieceLength(1) to the end", x.pieceLength(1), 1);
        CHECK.due("pieceLength(2) after the end", x.pieceLength(2), NONE);
        CopyAddDelta full = Due.made("0".repeat(32), "0".repeat(24));
        CHECK.due("pieces() to the end, full", full.pieces(), 1);
        CHECK.due("pieceLength(0) to the end, full", full.pieceLength(0), 24);
        CHECK.due("pieceLength(1) after the end, full", full.pieceLength(1), NONE);
    }
}
