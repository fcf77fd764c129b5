/** Promises 1 to 9: every short run of the calls that change a text, then the queries and every letter. */
public final class ShortRunsTest {
    private static final Due CHECK = new Due("ShortRunsTest");
    private static final int LENGTH = 4;

    /** A call and its arguments; each can be refused or not, by what came before. */
    private record Edit(Call call, int a, int b) {
    }

    private static final Edit[] EDITS = {
        new Edit(Call.SOURCE, 0, 0), new Edit(Call.SOURCE, 3, 0),
        new Edit(Call.TARGET, 0, 0), new Edit(Call.TARGET, 2, 0),
        new Edit(Call.QUOTE, 0, 1), new Edit(Call.QUOTE, 1, 1), new Edit(Call.QUOTE, 0, 2),
        new Edit(Call.CHANGE, 0, 3), new Edit(Call.CHANGE, 1, 1),
        new Edit(Call.ACCEPT, 0, 0), new Edit(Call.CLEAR_SOURCE, 0, 0), new Edit(Call.CLEAR_TARGET, 0, 0)};

    /** From empty texts, from short ones, and from texts that are near their ends. */
    private static final String[][] BEGINS = {
        {"", ""}, {"01", "12"}, {Due.S32.substring(0, 8), Due.T24.substring(0, 23)}, {Due.S32.substring(1), "3"}};

    public static void main(String[] args) {
        int runs = 1;
        for (int q = 0; q < LENGTH; q++) {
            runs *= EDITS.length;
        }
        for (String[] begin : BEGINS) {
            for (int run = 0; run < runs; run++) {
                run(begin, run);
            }
        }
        CHECK.end();
    }

    /** The digits of the run's number, with as many as there are edits, are its edits. */
    private static void run(String[] begin, int run) {
        Beside both = new Beside(CHECK, begin[0] + "/" + begin[1] + ", run " + run, begin[0], begin[1]);
        int rest = run;
        for (int q = 0; q < LENGTH; q++) {
            Edit edit = EDITS[rest % EDITS.length];
            both.ask(edit.call, edit.a, edit.b);
            rest /= EDITS.length;
        }
        both.askPlain();
        both.askLetters();
    }
}
