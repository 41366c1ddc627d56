import java.util.TreeSet;

/** Numbers that a call must refuse, or take. */
final class Ints {
    private Ints() {
    }

    /** The first ones that are outside on each side, the least and the greatest, and those that a narrower number would mistake. */
    static int[] outside(int from, int to) {
        TreeSet<Integer> found = new TreeSet<>();
        for (int end : new int[] {from, to}) {
            for (int step : new int[] {1, 2, 256, 65536, 1 << 24, 1 << 30, 1 << 31}) {
                found.add(end + step);
                found.add(end - step);
            }
        }
        found.add(Integer.MIN_VALUE);
        found.add(Integer.MIN_VALUE + 1);
        found.add(Integer.MAX_VALUE - 1);
        found.add(Integer.MAX_VALUE);
        found.removeIf(v -> v >= from && v <= to);
        return found.stream().mapToInt(Integer::intValue).toArray();
    }

    /** Those below only, for a call that has another word for what is too great. */
    static int[] below(int from) {
        return outside(from, Integer.MAX_VALUE);
    }

    /** Each one that is taken, where they are few. */
    static int[] within(int from, int to) {
        int[] all = new int[to - from + 1];
        for (int i = 0; i < all.length; i++) {
            all[i] = from + i;
        }
        return all;
    }
}
