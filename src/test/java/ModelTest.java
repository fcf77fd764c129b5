/** All promises: long runs of calls, each answer beside the model's; the runs are the same each time. */
public final class ModelTest {
    private static final Due CHECK = new Due("ModelTest");
    private static final int OBJECTS = 1000;
    private static final int[] ODD = {
        Integer.MIN_VALUE, Integer.MIN_VALUE + 1, -33, -1, 4, 24, 25, 32, 33, 100, 101,
        Integer.MAX_VALUE - 1, Integer.MAX_VALUE};

    private static long state = 20261115;
    private static int letters;

    public static void main(String[] args) {
        for (int run = 0; run < OBJECTS; run++) {
            // Few letters make long repeats, four of them make new letters.
            letters = 1 + run % 4;
            run(run, 1 + next(6));
        }
        CHECK.end();
    }

    private static int next(int bound) {
        state = state * 6364136223846793005L + 1442695040888963407L;
        return (int) ((state >>> 33) % bound);
    }

    /** Mostly 0 to below, now and then far out of any range. */
    private static int number(int below) {
        return next(20) == 0 ? ODD[next(ODD.length)] : next(below + 1) - next(12) / 11;
    }

    private static int letter() {
        return next(20) == 0 ? ODD[next(ODD.length)] : next(10) == 0 ? next(4) : next(letters);
    }

    private static void run(int run, int growth) {
        Beside both = new Beside(CHECK, "run " + run);
        while (both.calls() < Beside.MOST_CALLS) {
            if (next(8) < growth) {
                edit(both);
            } else {
                ask(both);
            }
        }
    }

    private static void edit(Beside both) {
        int a = number(32);
        int b = number(8);
        int c = letter();
        switch (next(40)) {
            case 0, 1 -> both.ask(Call.ACCEPT);
            case 2 -> both.ask(Call.CLEAR_SOURCE);
            case 3, 4 -> both.ask(Call.CLEAR_TARGET);
            case 5, 6, 7 -> both.ask(Call.QUOTE, a, b);
            case 8, 9, 10, 11 -> both.ask(Call.CHANGE, a, c);
            default -> both.ask(next(5) < 3 ? Call.SOURCE : Call.TARGET, c);
        }
    }

    private static void ask(Beside both) {
        int a = number(24);
        int b = number(24);
        int p = number(10);
        int copy = number(100);
        int add = number(next(2) == 0 ? 100 : 20);
        switch (next(13)) {
            case 0 -> both.ask(Call.LENGTHS);
            case 1 -> both.ask(Call.PIECES);
            case 2 -> both.ask(Call.PIECE_LENGTH, p);
            case 3 -> both.ask(Call.PIECE_FROM, p);
            case 4 -> both.ask(Call.FEWEST);
            case 5 -> both.ask(Call.CHEAPEST, copy, add);
            case 6 -> both.ask(Call.OCCURRENCES, a, b);
            case 7 -> both.ask(Call.LONGEST);
            case 8 -> both.ask(Call.LONGEST_AT);
            case 9 -> both.ask(Call.WORDS);
            case 10 -> both.ask(Call.WORDS_OF, b);
            case 11 -> both.ask(Call.SHORTEST_ABSENT);
            default -> both.ask(Call.LONGEST_REPEAT);
        }
    }
}
