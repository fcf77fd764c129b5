/** The edges that 'What it is' and 'Terms' name for every call: the 512th, and that none throws. */
public final class CallsEdgesTest {
    private static final Due CHECK = new Due("CallsEdgesTest");

    /** The source, then the target: each empty, short, one below full and full. */
    private static final String[][] TEXTS = {
        {"", ""}, {"", "0"}, {"2", ""}, {"", Due.T24}, {Due.S32, ""}, {"0123", "0122"},
        {Due.S32.substring(1), Due.T24.substring(1)}, {Due.S32, Due.T24}};

    public static void main(String[] args) {
        lengthsAtTheLastCall();
        eachCallAsTheLast();
        oneCallAllTheTime();
        noCallThrows();
        CHECK.end();
    }

    /** "An object is used for at most 512 calls after it has been made": the 512th is promised still. */
    private static void lengthsAtTheLastCall() {
        CopyAddDelta x = new CopyAddDelta();
        for (int call = 1; call <= 511; call++) {
            if (call % 28 == 0) {
                x.clearSource();
            } else {
                x.source(3);
            }
        }
        // 511 is 18 * 28 + 7.
        CHECK.due("lengths() as call 512", x.lengths(), 7);
    }

    /** The same: whichever call is the 512th, ordinary or refused, it answers as due. */
    private static void eachCallAsTheLast() {
        for (Call call : Call.values()) {
            for (int a : new int[] {0, 1, -1, 4, 102}) {
                Beside both = new Beside(CHECK, "the last call", "0123012", "012231");
                while (both.calls() < Beside.MOST_CALLS - 1) {
                    both.ask(Call.values()[Call.LENGTHS.ordinal() + both.calls() % 13], 1, 2);
                }
                both.ask(call, a, 2);
                CHECK.due("calls made", both.calls(), 512);
            }
        }
    }

    /** The same: 512 calls may all be one and the same. */
    private static void oneCallAllTheTime() {
        for (Call call : Call.values()) {
            Beside both = new Beside(CHECK, "the same call", "2", "");
            while (both.calls() < Beside.MOST_CALLS) {
                both.ask(call, 0, 0);
            }
            Beside filled = new Beside(CHECK, "the same call, texts full", Due.S32, Due.T24);
            while (filled.calls() < Beside.MOST_CALLS) {
                filled.ask(call, 1, 1);
            }
        }
    }

    /** "No call ever throws." */
    private static void noCallThrows() {
        for (String[] texts : TEXTS) {
            for (Call call : Call.values()) {
                for (int a : call.arguments == 0 ? new int[1] : Ints.some()) {
                    noCallThrows(call, a, new Beside(CHECK, "any ints", texts[0], texts[1]));
                    noCallThrows(call, a, Beside.worn(CHECK, "any ints, worn", texts[0], texts[1]));
                }
            }
        }
    }

    private static void noCallThrows(Call call, int a, Beside both) {
        for (int b : call.arguments < 2 ? new int[1] : Ints.some()) {
            both.ask(call, a, b);
        }
    }
}
