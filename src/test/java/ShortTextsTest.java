import java.util.ArrayList;
import java.util.List;

/** Promises 9 to 21: every query on every two short texts, each answer beside the model's. */
public final class ShortTextsTest {
    private static final Due CHECK = new Due("ShortTextsTest");

    public static void main(String[] args) {
        twoTexts(texts(4, 3), texts(4, 3));
        // Two letters repeat sooner, so that these texts can be longer.
        twoTexts(texts(2, 6), texts(2, 5));
        twoTexts(texts(4, 5), List.of("0120", "3"));
        twoTexts(texts(2, 10), List.of("01011"));
        CHECK.end();
    }

    private static void twoTexts(List<String> sources, List<String> targets) {
        for (String source : sources) {
            for (String target : targets) {
                new Beside(CHECK, source + "/" + target, source, target).askAll();
            }
        }
    }

    /** All texts of the letters below this one, from the empty text to those of this length. */
    private static List<String> texts(int letters, int length) {
        List<String> all = new ArrayList<>(List.of(""));
        for (int q = 0; all.get(q).length() < length; q++) {
            for (int c = 0; c < letters; c++) {
                all.add(all.get(q) + c);
            }
        }
        return all;
    }
}
