/** The edges that promises 10 to 12 name. */
public final class PiecesEdgesTest {
    private static final Due CHECK = new Due("PiecesEdgesTest");
    private static final Refusal REFUSED = new Refusal(CHECK);
    private static final int NONE = CopyAddDelta.NONE;
    private static final int MIN = Integer.MIN_VALUE;
    private static final int MAX = Integer.MAX_VALUE;

    public static void main(String[] args) {
        piecesOfNothing();
        piecesOfAnEmptySource();
        piecesWhenFull();
        lengthOfNoPiece();
        lengthOfNoPieceOfNothing();
        lengthOfTheFirstAndTheLast();
        lengthOfANewLetter();
        fromNoPiece();
        fromNoPieceOfNothing();
        fromOfANewLetter();
        fromOfALetterThatOccurs();
        fromTheFirstPlaceAndTheLast();
        CHECK.end();
    }

    /** Promise 10, of the empty target: there is no piece, whatever the source. */
    private static void piecesOfNothing() {
        for (int s = 0; s <= 32; s++) {
            CHECK.due("pieces() of nothing at s = " + s, Due.made("0".repeat(s), "").pieces(), 0);
        }
    }

    /** Promise 10, of the empty source: each letter of the target is a new one. */
    private static void piecesOfAnEmptySource() {
        for (int t = 0; t <= 24; t++) {
            CopyAddDelta x = Due.made("", Due.T24.substring(0, t));
            CHECK.due("pieces() of an empty source at t = " + t, x.pieces(), t);
        }
    }

    /** Promise 10, of full texts: from 1 piece to 24. */
    private static void piecesWhenFull() {
        CHECK.due("pieces(), one of 24 letters", Due.made("0".repeat(32), "0".repeat(24)).pieces(), 1);
        CHECK.due("pieces(), 24 new letters", Due.made("0".repeat(32), "1".repeat(24)).pieces(), 24);
        CHECK.due("pieces(), 24 of one letter", Due.made("0".repeat(31) + "1", "1".repeat(24)).pieces(), 24);
        CHECK.due("pieces(), 23 letters and one", Due.made("0".repeat(32), "0".repeat(23) + "1").pieces(), 2);
    }

    /** Promise 11: "NONE if there is none": p below 0, p the number of pieces, p above it, also below t. */
    private static void lengthOfNoPiece() {
        noPiece(Call.PIECE_LENGTH);
    }

    /** Promise 11, of the empty target: there is no piece 0. */
    private static void lengthOfNoPieceOfNothing() {
        noPieceOfNothing(Call.PIECE_LENGTH);
    }

    /** Promise 11: "(0 is the first)", and the last is the number of pieces less 1. */
    private static void lengthOfTheFirstAndTheLast() {
        CopyAddDelta x = Due.made("0123", "0123001");
        CHECK.due("pieces()", x.pieces(), 3);
        CHECK.due("pieceLength(0)", x.pieceLength(0), 4);
        CHECK.due("pieceLength(1)", x.pieceLength(1), 1);
        CHECK.due("pieceLength(2)", x.pieceLength(2), 2);
    }

    /** Promise 11, of a new letter: "the stretch (i, i + 1)", 1. */
    private static void lengthOfANewLetter() {
        CHECK.due("pieceLength(0) of a new letter", Due.made("012", "3").pieceLength(0), 1);
        CopyAddDelta full = Due.made("", Due.T24);
        for (int p = 0; p < 24; p++) {
            CHECK.due("pieceLength(" + p + ") of 24 new letters", full.pieceLength(p), 1);
        }
    }

    /** Promise 12: "NONE if there is no piece p". */
    private static void fromNoPiece() {
        noPiece(Call.PIECE_FROM);
    }

    /** Promise 12, of the empty target: there is no piece 0. */
    private static void fromNoPieceOfNothing() {
        noPieceOfNothing(Call.PIECE_FROM);
    }

    /** Promise 12: "NONE if ... it is a new letter". */
    private static void fromOfANewLetter() {
        REFUSED.due("012", "3", Call.PIECE_FROM, 0, NONE);
        REFUSED.due("012", "0123012", Call.PIECE_FROM, 1, NONE);
        REFUSED.due("", "012", Call.PIECE_FROM, 0, NONE);
        REFUSED.due("", "012", Call.PIECE_FROM, 2, NONE);
        REFUSED.due("0".repeat(32), "1".repeat(24), Call.PIECE_FROM, 23, NONE);
    }

    /** Promise 12: a piece of one letter that occurs isn't a new letter. */
    private static void fromOfALetterThatOccurs() {
        CopyAddDelta x = Due.made("0123", "0210");
        int[] places = {0, 2, 1, 0};
        for (int p = 0; p < 4; p++) {
            CHECK.due("pieceLength(" + p + ") of one that occurs", x.pieceLength(p), 1);
            CHECK.due("pieceFrom(" + p + ") of one that occurs", x.pieceFrom(p), places[p]);
        }
    }

    /** Promise 12: "The least place at which piece p occurs": 0 is one, and so is 31. */
    private static void fromTheFirstPlaceAndTheLast() {
        CopyAddDelta all = Due.made("0".repeat(32), "000");
        CHECK.due("pieceFrom(0) at all places", all.pieceFrom(0), 0);
        CopyAddDelta last = Due.made("0".repeat(31) + "1", "1");
        CHECK.due("pieceFrom(0) at the last place", last.pieceFrom(0), 31);
        CopyAddDelta second = Due.made("10" + "0".repeat(30), "00");
        CHECK.due("pieceFrom(0) at the second place and later ones", second.pieceFrom(0), 1);
        CopyAddDelta longest = Due.made("0".repeat(31) + "1", "0".repeat(23) + "1");
        CHECK.due("pieceFrom(0) of 24 letters", longest.pieceFrom(0), 8);
    }

    private static void noPiece(Call call) {
        // Two pieces, though the target has six letters.
        for (int p : new int[] {-1, 2, 3, 5, 6, 24, MIN, MAX}) {
            REFUSED.due("0123", "012301", call, p, NONE);
        }
        for (int p : new int[] {-1, 24, 25}) {
            REFUSED.due("", Due.T24, call, p, NONE);
        }
        for (int p : Ints.many()) {
            if (p < 0 || p > 1) {
                Beside both = new Beside(CHECK, "two pieces", "0123", "012301");
                both.refused(call, p, 0, NONE);
            }
        }
    }

    private static void noPieceOfNothing(Call call) {
        for (int p : new int[] {-1, 0, 1, MIN, MAX}) {
            REFUSED.due("", "", call, p, NONE);
            REFUSED.due("0123", "", call, p, NONE);
        }
    }
}
