/**
 * A target text made from pieces of a source text: the longest pieces, the
 * fewest, the cheapest, and what the source holds.
 */
public final class CopyAddDelta {
    public static final int BAD_ARG = -1;
    public static final int FULL = -2;
    public static final int NONE = -4;

    private static final int LETTERS = 4;
    private static final int SOURCE_ROOM = 32;
    private static final int TARGET_ROOM = 24;
    // Before each letter of the target and after the last one.
    private static final int TARGET_CUTS = 25;
    private static final int LENGTHS_BASE = 64;
    private static final int GREATEST_PRICE = 100;

    private final int[] sourceLetters = new int[SOURCE_ROOM];
    private final int[] targetLetters = new int[TARGET_ROOM];
    // A field only because a method makes no array: no call needs what another left here.
    private final int[] costUpTo = new int[TARGET_CUTS];
    private int sourceLength;
    private int targetLength;

    public CopyAddDelta() {
        sourceLength = 0;
        targetLength = 0;
    }

    public int source(int c) {
        if (!isLetter(c)) {
            return BAD_ARG;
        }
        if (sourceLength >= SOURCE_ROOM) {
            return FULL;
        }
        sourceLetters[sourceLength] = c;
        sourceLength++;
        return sourceLength;
    }

    public int target(int c) {
        if (!isLetter(c)) {
            return BAD_ARG;
        }
        if (targetLength >= TARGET_ROOM) {
            return FULL;
        }
        targetLetters[targetLength] = c;
        targetLength++;
        return targetLength;
    }

    public int quote(int k, int n) {
        // k + n could wrap around; with k not negative, sourceLength - k can't.
        if (k < 0 || n < 0 || n > sourceLength - k) {
            return BAD_ARG;
        }
        if (n > TARGET_ROOM - targetLength) {
            return FULL;
        }
        for (int q = 0; q < n; q++) {
            targetLetters[targetLength + q] = sourceLetters[k + q];
        }
        targetLength += n;
        return targetLength;
    }

    public int change(int i, int c) {
        if (i < 0 || i >= targetLength || !isLetter(c)) {
            return BAD_ARG;
        }
        int before = targetLetters[i];
        targetLetters[i] = c;
        return before;
    }

    public int accept() {
        if (targetLength > SOURCE_ROOM - sourceLength) {
            return FULL;
        }
        for (int q = 0; q < targetLength; q++) {
            sourceLetters[sourceLength + q] = targetLetters[q];
        }
        sourceLength += targetLength;
        targetLength = 0;
        return sourceLength;
    }

    public void clearSource() {
        sourceLength = 0;
    }

    public void clearTarget() {
        targetLength = 0;
    }

    public int lengths() {
        return sourceLength + LENGTHS_BASE * targetLength;
    }

    public int pieces() {
        int count = 0;
        int i = 0;
        while (count < targetLength && i < targetLength) {
            i = pieceEnd(i);
            count++;
        }
        return count;
    }

    public int pieceLength(int p) {
        int i = pieceBegin(p);
        if (i == NONE) {
            return NONE;
        }
        return pieceEnd(i) - i;
    }

    public int pieceFrom(int p) {
        int i = pieceBegin(p);
        if (i == NONE) {
            return NONE;
        }
        int j = pieceEnd(i);
        return leastPlace(i, j);
    }

    public int fewest() {
        return leastCost(1, 1);
    }

    public int cheapest(int copy, int add) {
        if (!isPrice(copy) || !isPrice(add)) {
            return BAD_ARG;
        }
        return leastCost(copy, add);
    }

    public int occurrences(int i, int j) {
        if (i < 0 || i > j || j > targetLength) {
            return BAD_ARG;
        }
        int count = 0;
        // The place sourceLength counts too: the empty word occurs there.
        for (int k = 0; k <= sourceLength; k++) {
            if (sharedLength(k, i) >= j - i) {
                count++;
            }
        }
        return count;
    }

    public int longest() {
        int i = longestAt();
        return longestFrom(i);
    }

    public int longestAt() {
        int at = 0;
        int best = 0;
        for (int i = 0; i < targetLength; i++) {
            int length = longestFrom(i);
            if (length > best) {
                best = length;
                at = i;
            }
        }
        return at;
    }

    public int words() {
        int count = 0;
        for (int k = 0; k < sourceLength; k++) {
            // Of the words at place k, those longer than any seen before are new.
            count += sourceLength - k - seenBefore(k);
        }
        return count;
    }

    public int wordsOf(int k) {
        if (k < 1) {
            return 0;
        }
        int count = 0;
        for (int place = 0; place <= sourceLength - k; place++) {
            // Each word is counted once, at the least place at which it occurs.
            if (seenBefore(place) < k) {
                count++;
            }
        }
        return count;
    }

    public int shortestAbsent() {
        int possible = LETTERS;
        // 32 letters can't hold all 64 words of 3 letters: possible stays small.
        for (int n = 1; n <= sourceLength; n++) {
            if (wordsOf(n) < possible) {
                return n;
            }
            possible *= LETTERS;
        }
        return sourceLength + 1;
    }

    public int longestRepeat() {
        int best = 0;
        for (int k = 0; k < sourceLength; k++) {
            int length = seenBefore(k);
            if (length > best) {
                best = length;
            }
        }
        return best;
    }

    private static boolean isLetter(int c) {
        return c >= 0 && c < LETTERS;
    }

    private static boolean isPrice(int price) {
        return price >= 0 && price <= GREATEST_PRICE;
    }

    /** How many letters the source from place k on and the target from place i on share. */
    private int sharedLength(int k, int i) {
        int n = 0;
        while (k + n < sourceLength && i + n < targetLength
                && sourceLetters[k + n] == targetLetters[i + n]) {
            n++;
        }
        return n;
    }

    /** The length of the longest stretch from place i on that occurs in the source. */
    private int longestFrom(int i) {
        int best = 0;
        for (int k = 0; k < sourceLength; k++) {
            int length = sharedLength(k, i);
            if (length > best) {
                best = length;
            }
        }
        return best;
    }

    /** The least place of the source at which the stretch (i, j), i < j, occurs, or NONE. */
    private int leastPlace(int i, int j) {
        for (int k = 0; k < sourceLength; k++) {
            if (sharedLength(k, i) >= j - i) {
                return k;
            }
        }
        return NONE;
    }

    /** The end of the piece that begins at place i. */
    private int pieceEnd(int i) {
        int length = longestFrom(i);
        return length == 0 ? i + 1 : i + length;
    }

    /** The place at which piece p begins, or NONE if there is no piece p. */
    private int pieceBegin(int p) {
        // There are never more pieces than letters: this also bounds the loop.
        if (p < 0 || p >= targetLength) {
            return NONE;
        }
        int i = 0;
        for (int q = 0; q < p && i < targetLength; q++) {
            i = pieceEnd(i);
        }
        return i < targetLength ? i : NONE;
    }

    /** The least cost of cutting the target into copied parts and added letters. */
    private int leastCost(int copy, int add) {
        costUpTo[0] = 0;
        for (int j = 1; j <= targetLength; j++) {
            int best = costUpTo[j - 1] + add;
            for (int i = 0; i < j; i++) {
                int cost = costUpTo[i] + copy;
                if (cost < best && leastPlace(i, j) != NONE) {
                    best = cost;
                }
            }
            costUpTo[j] = best;
        }
        return costUpTo[targetLength];
    }

    /** The length of the longest word at place k of the source that also occurs at an earlier place. */
    private int seenBefore(int k) {
        int best = 0;
        for (int earlier = 0; earlier < k; earlier++) {
            int n = 0;
            while (k + n < sourceLength && sourceLetters[earlier + n] == sourceLetters[k + n]) {
                n++;
            }
            if (n > best) {
                best = n;
            }
        }
        return best;
    }
}
