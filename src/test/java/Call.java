/** Every call of the face, on an object of the class and on the model. A void call answers 0. */
enum Call {
    SOURCE("source", 1, (x, a, b) -> x.source(a), (m, a, b) -> m.source(a)),
    TARGET("target", 1, (x, a, b) -> x.target(a), (m, a, b) -> m.target(a)),
    QUOTE("quote", 2, (x, a, b) -> x.quote(a, b), (m, a, b) -> m.quote(a, b)),
    CHANGE("change", 2, (x, a, b) -> x.change(a, b), (m, a, b) -> m.change(a, b)),
    ACCEPT("accept", 0, (x, a, b) -> x.accept(), (m, a, b) -> m.accept()),
    CLEAR_SOURCE("clearSource", 0, (x, a, b) -> done(x::clearSource), (m, a, b) -> done(m::clearSource)),
    CLEAR_TARGET("clearTarget", 0, (x, a, b) -> done(x::clearTarget), (m, a, b) -> done(m::clearTarget)),
    LENGTHS("lengths", 0, (x, a, b) -> x.lengths(), (m, a, b) -> m.lengths()),
    PIECES("pieces", 0, (x, a, b) -> x.pieces(), (m, a, b) -> m.pieces()),
    PIECE_LENGTH("pieceLength", 1, (x, a, b) -> x.pieceLength(a), (m, a, b) -> m.pieceLength(a)),
    PIECE_FROM("pieceFrom", 1, (x, a, b) -> x.pieceFrom(a), (m, a, b) -> m.pieceFrom(a)),
    FEWEST("fewest", 0, (x, a, b) -> x.fewest(), (m, a, b) -> m.fewest()),
    CHEAPEST("cheapest", 2, (x, a, b) -> x.cheapest(a, b), (m, a, b) -> m.cheapest(a, b)),
    OCCURRENCES("occurrences", 2, (x, a, b) -> x.occurrences(a, b), (m, a, b) -> m.occurrences(a, b)),
    LONGEST("longest", 0, (x, a, b) -> x.longest(), (m, a, b) -> m.longest()),
    LONGEST_AT("longestAt", 0, (x, a, b) -> x.longestAt(), (m, a, b) -> m.longestAt()),
    WORDS("words", 0, (x, a, b) -> x.words(), (m, a, b) -> m.words()),
    WORDS_OF("wordsOf", 1, (x, a, b) -> x.wordsOf(a), (m, a, b) -> m.wordsOf(a)),
    SHORTEST_ABSENT("shortestAbsent", 0, (x, a, b) -> x.shortestAbsent(), (m, a, b) -> m.shortestAbsent()),
    LONGEST_REPEAT("longestRepeat", 0, (x, a, b) -> x.longestRepeat(), (m, a, b) -> m.longestRepeat());

    /** A call on something; arguments that it doesn't take are left unused. */
    interface On<T> {
        int answer(T asked, int a, int b);
    }

    final int arguments;
    final On<CopyAddDelta> onObject;
    final On<Model> onModel;
    private final String name;

    Call(String name, int arguments, On<CopyAddDelta> onObject, On<Model> onModel) {
        this.name = name;
        this.arguments = arguments;
        this.onObject = onObject;
        this.onModel = onModel;
    }

    String told(int a, int b) {
        return name + switch (arguments) {
            case 0 -> "()";
            case 1 -> "(" + a + ")";
            default -> "(" + a + ", " + b + ")";
        };
    }

    private static int done(Runnable call) {
        call.run();
        return 0;
    }
}
