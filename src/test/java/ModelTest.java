/** All promises: long runs of calls, each answer beside the model's; the runs are the same each time. */
public final class ModelTest {
    private static final Due CHECK = new Due("ModelTest");
    private static final int OBJECTS = 600;
    private static final int CALLS = 512;
    private static final int[] ODD = {
        Integer.MIN_VALUE, Integer.MIN_VALUE + 1, -33, -1, 4, 24, 25, 32, 33, 100, 101,
        Integer.MAX_VALUE - 1, Integer.MAX_VALUE};

    private static long state = 20261115;
    private static int letters;

    public static void main(String[] args) {
        for (int run = 0; run < OBJECTS; run++) {
            // Few letters make long repeats, four of them make new letters.
            letters = 1 + run % 4;
            run(run, 1 + next(6));
        }
        CHECK.end();
    }

    private static int next(int bound) {
        state = state * 6364136223846793005L + 1442695040888963407L;
        return (int) ((state >>> 33) % bound);
    }

    /** Mostly 0 to below, now and then far out of any range. */
    private static int number(int below) {
        return next(20) == 0 ? ODD[next(ODD.length)] : next(below + 1) - next(12) / 11;
    }

    private static int letter() {
        return next(20) == 0 ? ODD[next(ODD.length)] : next(10) == 0 ? next(4) : next(letters);
    }

    private static void run(int run, int growth) {
        CopyAddDelta x = new CopyAddDelta();
        Model model = new Model();
        for (int call = 0; call < CALLS; call++) {
            String when = "run " + run + ", call " + call + ": ";
            if (next(8) < growth) {
                edit(when, x, model);
            } else {
                ask(when, x, model);
            }
        }
    }

    private static void edit(String when, CopyAddDelta x, Model model) {
        int a = number(32);
        int b = number(8);
        int c = letter();
        switch (next(40)) {
            case 0, 1 -> CHECK.due(when + "accept()", x.accept(), model.accept());
            case 2 -> {
                x.clearSource();
                model.clearSource();
            }
            case 3, 4 -> {
                x.clearTarget();
                model.clearTarget();
            }
            case 5, 6, 7 -> CHECK.due(when + "quote(" + a + ", " + b + ")", x.quote(a, b), model.quote(a, b));
            case 8, 9, 10, 11 ->
                CHECK.due(when + "change(" + a + ", " + c + ")", x.change(a, c), model.change(a, c));
            default -> {
                if (next(5) < 3) {
                    CHECK.due(when + "source(" + c + ")", x.source(c), model.source(c));
                } else {
                    CHECK.due(when + "target(" + c + ")", x.target(c), model.target(c));
                }
            }
        }
        CHECK.due(when + "lengths()", x.lengths(), model.lengths());
    }

    private static void ask(String when, CopyAddDelta x, Model model) {
        int a = number(24);
        int b = number(24);
        int p = number(10);
        int copy = number(100);
        int add = number(next(2) == 0 ? 100 : 20);
        switch (next(13)) {
            case 0 -> CHECK.due(when + "lengths()", x.lengths(), model.lengths());
            case 1 -> CHECK.due(when + "pieces()", x.pieces(), model.pieces());
            case 2 -> CHECK.due(when + "pieceLength(" + p + ")", x.pieceLength(p), model.pieceLength(p));
            case 3 -> CHECK.due(when + "pieceFrom(" + p + ")", x.pieceFrom(p), model.pieceFrom(p));
            case 4 -> CHECK.due(when + "fewest()", x.fewest(), model.fewest());
            case 5 -> CHECK.due(when + "cheapest(" + copy + ", " + add + ")",
                    x.cheapest(copy, add), model.cheapest(copy, add));
            case 6 -> CHECK.due(when + "occurrences(" + a + ", " + b + ")",
                    x.occurrences(a, b), model.occurrences(a, b));
            case 7 -> CHECK.due(when + "longest()", x.longest(), model.longest());
            case 8 -> CHECK.due(when + "longestAt()", x.longestAt(), model.longestAt());
            case 9 -> CHECK.due(when + "words()", x.words(), model.words());
            case 10 -> CHECK.due(when + "wordsOf(" + b + ")", x.wordsOf(b), model.wordsOf(b));
            case 11 -> CHECK.due(when + "shortestAbsent()", x.shortestAbsent(), model.shortestAbsent());
            default -> CHECK.due(when + "longestRepeat()", x.longestRepeat(), model.longestRepeat());
        }
    }
}
