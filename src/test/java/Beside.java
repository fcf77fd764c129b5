/**
 * One object and the model beside it. Each call goes to both, and the object's
 * answer is due to be the model's; an object that throws has answered wrongly.
 */
final class Beside {
    /** Nothing is promised about an object's later calls, so no test makes any. */
    static final int MOST_CALLS = 512;

    /** A copy as dear as one letter, as two or three, and free; and what is no price. */
    private static final int[][] PRICES = {{7, 7}, {5, 3}, {5, 2}, {2, 5}, {0, 1}, {1, 0}, {-1, 1}, {1, 101}};

    private final Due check;
    private final String when;
    private final CopyAddDelta object = new CopyAddDelta();
    private final Model model = new Model();
    private int calls = 0;

    Beside(Due check, String when) {
        this.check = check;
        this.when = when;
    }

    /** With these texts, a digit a letter. */
    Beside(Due check, String when, String source, String target) {
        this(check, when);
        append(Call.SOURCE, source);
        append(Call.TARGET, target);
    }

    /**
     * With these texts, after both texts were full of other letters: what was
     * there once must not show. The source comes by way of the target.
     */
    static Beside worn(Due check, String when, String source, String target) {
        Beside both = new Beside(check, when, "01230321".repeat(4), "32100123".repeat(3));
        both.ask(Call.CLEAR_SOURCE);
        both.ask(Call.CLEAR_TARGET);
        int half = source.length() / 2;
        for (String part : new String[] {source.substring(0, half), source.substring(half)}) {
            both.append(Call.TARGET, part);
            both.ask(Call.ACCEPT);
        }
        both.append(Call.TARGET, target);
        return both;
    }

    int calls() {
        return calls;
    }

    void ask(Call call) {
        ask(call, 0, 0);
    }

    void ask(Call call, int a) {
        ask(call, a, 0);
    }

    void ask(Call call, int a, int b) {
        due(call, a, b, call.onModel.answer(model, a, b));
    }

    /** Every query without arguments. */
    void askPlain() {
        for (Call call : Call.values()) {
            if (call.arguments == 0 && call.ordinal() >= Call.LENGTHS.ordinal()) {
                ask(call);
            }
        }
    }

    /** Every query, with the arguments that the texts of now give a meaning and those beside them. */
    void askAll() {
        int s = model.lengths() % 64;
        int t = model.lengths() / 64;
        askPlain();
        for (int p = -1; p <= t; p++) {
            ask(Call.PIECE_LENGTH, p);
            ask(Call.PIECE_FROM, p);
        }
        for (int i = 0; i <= t + 1; i++) {
            for (int j = i - 1; j <= t + 1; j++) {
                ask(Call.OCCURRENCES, i, j);
            }
        }
        for (int k = 0; k <= s + 1; k++) {
            ask(Call.WORDS_OF, k);
        }
        for (int[] prices : PRICES) {
            ask(Call.CHEAPEST, prices[0], prices[1]);
        }
    }

    /** Reads both texts, which leaves the target empty. */
    void askLetters() {
        ask(Call.LENGTHS);
        for (int i = 0; i <= 24; i++) {
            ask(Call.CHANGE, i, 0);
        }
        ask(Call.CLEAR_TARGET);
        for (int k = 0; k <= 32; k++) {
            ask(Call.QUOTE, k, 1);
            ask(Call.CHANGE, 0, 0);
            ask(Call.CLEAR_TARGET);
        }
    }

    /** The model isn't asked: it goes on as if there had been no such call. */
    void refused(Call call, int a, int b, int code) {
        due(call, a, b, code);
    }

    private void due(Call call, int a, int b, int want) {
        calls++;
        if (calls > MOST_CALLS) {
            throw new IllegalStateException("a test makes more than " + MOST_CALLS + " calls");
        }
        String told = when + ", call " + calls + ": " + call.told(a, b);
        try {
            check.due(told, call.onObject.answer(object, a, b), want);
        } catch (RuntimeException | Error thrown) {
            check.holds(told + " doesn't throw, but " + thrown, false);
        }
    }

    private void append(Call call, String letters) {
        for (char c : letters.toCharArray()) {
            ask(call, c - '0');
        }
    }
}
