import java.util.HashSet;
import java.util.Set;

/** The document's words over Java's strings, a digit a letter, as a second opinion. */
final class Model {
    private static final int BAD_ARG = -1;
    private static final int FULL = -2;
    private static final int NONE = -4;

    private String source = "";
    private String target = "";

    int source(int c) {
        if (c < 0 || c > 3) {
            return BAD_ARG;
        }
        if (source.length() == 32) {
            return FULL;
        }
        source += c;
        return source.length();
    }

    int target(int c) {
        if (c < 0 || c > 3) {
            return BAD_ARG;
        }
        if (target.length() == 24) {
            return FULL;
        }
        target += c;
        return target.length();
    }

    int quote(int k, int n) {
        if (k < 0 || n < 0 || (long) k + n > source.length()) {
            return BAD_ARG;
        }
        if (target.length() + n > 24) {
            return FULL;
        }
        target += source.substring(k, k + n);
        return target.length();
    }

    int change(int i, int c) {
        if (i < 0 || i >= target.length() || c < 0 || c > 3) {
            return BAD_ARG;
        }
        int before = target.charAt(i) - '0';
        target = target.substring(0, i) + c + target.substring(i + 1);
        return before;
    }

    int accept() {
        if (source.length() + target.length() > 32) {
            return FULL;
        }
        source += target;
        target = "";
        return source.length();
    }

    void clearSource() {
        source = "";
    }

    void clearTarget() {
        target = "";
    }

    int lengths() {
        return source.length() + 64 * target.length();
    }

    /** Piece p, or no text at all if there is none. */
    private String piece(int p) {
        String rest = target;
        for (int q = 0; !rest.isEmpty(); q++) {
            int n = rest.length();
            while (n > 1 && !source.contains(rest.substring(0, n))) {
                n--;
            }
            if (q == p) {
                return rest.substring(0, n);
            }
            rest = rest.substring(n);
        }
        return "";
    }

    int pieces() {
        int count = 0;
        while (!piece(count).isEmpty()) {
            count++;
        }
        return count;
    }

    int pieceLength(int p) {
        return piece(p).isEmpty() ? NONE : piece(p).length();
    }

    int pieceFrom(int p) {
        return piece(p).isEmpty() || !source.contains(piece(p)) ? NONE : source.indexOf(piece(p));
    }

    int fewest() {
        int[] least = new int[target.length() + 1];
        for (int i = target.length() - 1; i >= 0; i--) {
            least[i] = Integer.MAX_VALUE;
            for (int j = i + 1; j <= target.length(); j++) {
                if (j == i + 1 || source.contains(target.substring(i, j))) {
                    least[i] = Math.min(least[i], 1 + least[j]);
                }
            }
        }
        return least[0];
    }

    int cheapest(int copy, int add) {
        if (copy < 0 || copy > 100 || add < 0 || add > 100) {
            return BAD_ARG;
        }
        int[] least = new int[target.length() + 1];
        for (int i = target.length() - 1; i >= 0; i--) {
            least[i] = add + least[i + 1];
            for (int j = i + 1; j <= target.length(); j++) {
                if (source.contains(target.substring(i, j))) {
                    least[i] = Math.min(least[i], copy + least[j]);
                }
            }
        }
        return least[0];
    }

    int occurrences(int i, int j) {
        if (i < 0 || j < i || j > target.length()) {
            return BAD_ARG;
        }
        int count = 0;
        for (int k = 0; k <= source.length(); k++) {
            if (source.substring(k).startsWith(target.substring(i, j))) {
                count++;
            }
        }
        return count;
    }

    int longest() {
        int best = 0;
        for (int i = 0; i <= target.length(); i++) {
            for (int j = i; j <= target.length(); j++) {
                if (source.contains(target.substring(i, j))) {
                    best = Math.max(best, j - i);
                }
            }
        }
        return best;
    }

    int longestAt() {
        int n = longest();
        int i = 0;
        while (!source.contains(target.substring(i, i + n))) {
            i++;
        }
        return i;
    }

    int words() {
        int count = 0;
        for (int k = 1; k <= 32; k++) {
            count += wordsOf(k);
        }
        return count;
    }

    int wordsOf(int k) {
        Set<String> words = new HashSet<>();
        for (int a = 0; k >= 1 && a <= source.length() - k; a++) {
            words.add(source.substring(a, a + k));
        }
        return words.size();
    }

    int shortestAbsent() {
        for (int n = 1; ; n++) {
            for (int word = 0; word < 1 << 2 * n; word++) {
                StringBuilder text = new StringBuilder();
                for (int q = 0; q < n; q++) {
                    text.append(word >> 2 * q & 3);
                }
                if (!source.contains(text)) {
                    return n;
                }
            }
        }
    }

    int longestRepeat() {
        int best = 0;
        for (int a = 0; a < source.length(); a++) {
            for (int n = 1; a + n <= source.length(); n++) {
                if (source.indexOf(source.substring(a, a + n), a + 1) > a) {
                    best = Math.max(best, n);
                }
            }
        }
        return best;
    }
}
