import java.util.TreeSet;

/** Numbers that are no number of an entry, a place, a block or a point. */
final class Outside {
    /**
     * The least and the greatest int; numbers that shifts, or products with 6 or 10 (the lengths
     * of rows that lie in one array), wrap around to small ones; the limits of the document.
     */
    private static final int[] FAR = {
        Integer.MIN_VALUE, Integer.MIN_VALUE + 1, -1431655765, -858993459, -64, -32, -10, -6, -2, -1,
        6, 7, 9, 10, 11, 31, 32, 33, 59, 60, 61, 64, 255, 256, 65536, 429496730, 715827883, 858993460,
        1 << 30, Integer.MAX_VALUE - 1, Integer.MAX_VALUE
    };

    private Outside() {
    }

    /** Numbers outside 0 .. count - 1, those next to it among them. */
    static int[] of(int count) {
        TreeSet<Integer> numbers = new TreeSet<>();
        numbers.add(-1);
        numbers.add(count);
        numbers.add(count + 1);
        for (int n : FAR) {
            if (n < 0 || n >= count) {
                numbers.add(n);
            }
        }
        return numbers.stream().mapToInt(Integer::intValue).toArray();
    }
}
