import java.util.List;
import java.util.function.Consumer;

/** "A refused call answers the code named and changes nothing." */
final class Refusal {
    /** Each on an object of its own, as together they would be more calls than an object is made for. */
    private static final List<Consumer<Beside>> LATER =
            List.of(Refusal::numbers, Refusal::stretches, Beside::askLetters, Refusal::growth);

    private final Due check;

    Refusal(Due check) {
        this.check = check;
    }

    /**
     * Makes the call with these texts, and then asks for all that later calls
     * can show of them; the same with every letter c made 3 - c, as a letter
     * that is lost shows only where another one was due.
     */
    void due(String source, String target, Call call, int a, int b, int code) {
        String when = source + "/" + target + " and a refused " + call.told(a, b);
        for (Consumer<Beside> later : LATER) {
            for (Beside both : made(when, source, target)) {
                both.refused(call, a, b, code);
                later.accept(both);
            }
        }
    }

    void due(String source, String target, Call call, int a, int code) {
        due(source, target, call, a, 0, code);
    }

    private List<Beside> made(String when, String source, String target) {
        return List.of(
                new Beside(check, when, source, target),
                Beside.worn(check, when + ", worn", source, target),
                new Beside(check, when + ", turned", turned(source), turned(target)),
                Beside.worn(check, when + ", turned and worn", turned(source), turned(target)));
    }

    private static String turned(String letters) {
        StringBuilder text = new StringBuilder();
        for (char c : letters.toCharArray()) {
            text.append(3 - (c - '0'));
        }
        return text.toString();
    }

    private static void numbers(Beside both) {
        both.askPlain();
        for (int p = -1; p <= 25; p++) {
            both.ask(Call.PIECE_LENGTH, p);
            both.ask(Call.PIECE_FROM, p);
        }
        for (int k = -1; k <= 33; k++) {
            both.ask(Call.WORDS_OF, k);
        }
        for (int copy : new int[] {-1, 0, 1, 7, 100, 101}) {
            for (int add : new int[] {-1, 0, 1, 3, 100, 101}) {
                both.ask(Call.CHEAPEST, copy, add);
            }
        }
    }

    private static void stretches(Beside both) {
        for (int i = 0; i <= 24; i++) {
            for (int j = i; j <= 24; j++) {
                both.ask(Call.OCCURRENCES, i, j);
            }
        }
    }

    /** The texts go on from where they were: to their ends, and into one another. */
    private static void growth(Beside both) {
        for (int c = 0; c < 4; c++) {
            both.ask(Call.SOURCE, c);
            both.ask(Call.TARGET, 3 - c);
            both.ask(Call.QUOTE, c, 2);
            both.ask(Call.CHANGE, c, c);
        }
        both.ask(Call.PIECES);
        both.ask(Call.ACCEPT);
        both.ask(Call.WORDS);
        both.ask(Call.CLEAR_SOURCE);
        both.ask(Call.ACCEPT);
        both.ask(Call.WORDS);
        both.askLetters();
    }
}
