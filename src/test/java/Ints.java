import java.util.TreeSet;

/** Whole numbers at which a range test can go wrong. */
final class Ints {
    private Ints() {
    }

    /** Near 0 and near the document's bounds, and near each power of two, where sums and narrower types wrap around. */
    static int[] many() {
        TreeSet<Integer> all = new TreeSet<>();
        for (int n = -70; n <= 140; n++) {
            all.add(n);
        }
        for (int bit = 7; bit < 32; bit++) {
            addNear(all, 1 << bit);
            addNear(all, -(1 << bit));
        }
        return array(all);
    }

    /** Few enough to try each with each. */
    static int[] some() {
        TreeSet<Integer> all = new TreeSet<>();
        for (int n = -3; n <= 35; n++) {
            all.add(n);
        }
        for (int n : new int[] {64, 100, 101, 1 << 8, 1 << 16, 1 << 30, 1 << 31, -(1 << 16), -(1 << 30)}) {
            addNear(all, n);
        }
        return array(all);
    }

    private static void addNear(TreeSet<Integer> all, int n) {
        for (int near = -3; near <= 3; near++) {
            all.add(n + near);
        }
    }

    private static int[] array(TreeSet<Integer> all) {
        return all.stream().mapToInt(Integer::intValue).toArray();
    }
}
