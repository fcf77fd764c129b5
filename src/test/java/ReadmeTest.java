/** The example of README.md, call by call: one who changes it there changes it here. */
public final class ReadmeTest {
    private static final Due CHECK = new Due("ReadmeTest");

    public static void main(String[] args) {
        CopyAddDelta x = new CopyAddDelta();
        CHECK.due("source(0)", x.source(0), 1);
        CHECK.due("source(1)", x.source(1), 2);
        CHECK.due("quote(0, 2)", x.quote(0, 2), 2);
        CHECK.due("target(3)", x.target(3), 3);
        CHECK.due("target(4)", x.target(4), CopyAddDelta.BAD_ARG);
        CHECK.due("lengths()", x.lengths(), 194);
        CHECK.due("pieces()", x.pieces(), 2);
        CHECK.due("pieceLength(0)", x.pieceLength(0), 2);
        CHECK.due("pieceFrom(0)", x.pieceFrom(0), 0);
        CHECK.due("pieceFrom(1)", x.pieceFrom(1), CopyAddDelta.NONE);
        CHECK.due("fewest()", x.fewest(), 2);
        CHECK.due("cheapest(5, 2)", x.cheapest(5, 2), 6);
        CHECK.due("occurrences(0, 2)", x.occurrences(0, 2), 1);
        CHECK.due("longest()", x.longest(), 2);
        CHECK.due("longestAt()", x.longestAt(), 0);
        CHECK.due("change(2, 1)", x.change(2, 1), 3);
        CHECK.due("accept()", x.accept(), 5);
        CHECK.due("words()", x.words(), 11);
        CHECK.due("wordsOf(2)", x.wordsOf(2), 3);
        CHECK.due("shortestAbsent()", x.shortestAbsent(), 1);
        CHECK.due("longestRepeat()", x.longestRepeat(), 2);
        CHECK.end();
    }
}
