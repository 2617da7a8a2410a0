import java.util.ArrayList;
import java.util.List;

/**
 * The terms of the document, one test each, told by the class's own answers: what an entry or a
 * form must be by its term is worked out here from the blocks that the class tells.
 */
public final class TermsTest {
    private static final int NONE = PackingCensus.NONE;
    private static final Due DUE = new Due();

    public static void main(String[] args) {
        blockIsTheSumOverItsPoints();
        layingHasABlockSeveralTimes();
        layingHasNoOrder();
        packingCountsABlockAsOftenAsItComes();
        renamingKeepsPointsApart();
        likeLayingsHaveOneForm();
        unlikeLayingsOfOneSizeHaveTwo();
        handIsInSomeOrder();
        nextListHasOneBlockMore();
        for (int v = 3; v <= 6; v++) {
            for (int k = 2; k < v; k++) {
                for (int lambda = 1; lambda <= 4; lambda++) {
                    listsOf(v, k, lambda);
                }
            }
        }
        DUE.end();
    }

    private static void blockIsTheSumOverItsPoints() {
        DUE.about("block, mask");
        PackingCensus x = Made.withHand(6, 3, 1, 1 + 4 + 32);
        DUE.is("swap(5, 4)", x.swap(5, 4), true);
        DUE.handIs(x, 1 + 4 + 16);
        DUE.is("swap(0, 3)", x.swap(0, 3), true);
        DUE.handIs(x, 4 + 8 + 16);
        DUE.formIs(x, 1 + 2 + 4);
    }

    private static void layingHasABlockSeveralTimes() {
        DUE.about("laying: a block may come several times");
        PackingCensus x = Made.withHand(4, 2, 3, 12, 12, 12);
        DUE.formIs(x, 3, 3, 3);
        Made.put(x, 3);
        DUE.formIs(x, 3, 3, 3, 12);
        DUE.is("symmetries() of 3 3 3 12", x.symmetries(), 4);
        Made.put(x, 3, 3);
        DUE.is("symmetries() of 3 3 3 12 12 12", x.symmetries(), 8);
    }

    private static void layingHasNoOrder() {
        DUE.about("laying: order does not matter");
        int[][] orders = {{3, 5, 24}, {3, 24, 5}, {5, 3, 24}, {5, 24, 3}, {24, 3, 5}, {24, 5, 3}};
        for (int[] masks : orders) {
            PackingCensus x = Made.put(Made.census(6, 2, 1, 3), masks);
            DUE.formIs(x, 3, 5, 24);
            DUE.is("symmetries()", x.symmetries(), 4);
            DUE.is("find()", x.find(), 3);
        }
    }

    private static void packingCountsABlockAsOftenAsItComes() {
        DUE.about("packing: each counted as often as it comes");
        PackingCensus once = Made.put(Made.census(5, 3, 1, 2), 7, 7);
        DUE.is("find() of a block twice, lambda 1", once.find(), NONE);
        PackingCensus twice = Made.put(Made.census(5, 3, 2, 2), 7, 7);
        DUE.is("find() of a block twice, lambda 2", twice.find(), 0);
        PackingCensus thrice = Made.put(Made.census(5, 3, 2, 3), 7, 7, 11);
        DUE.is("find() of two points three times, lambda 2", thrice.find(), NONE);
    }

    private static void renamingKeepsPointsApart() {
        DUE.about("renaming: no two points to the same one");
        for (int v = 3; v <= 6; v++) {
            int product = 1;
            for (int n = 2; n <= v; n++) {
                product *= n;
            }
            DUE.is("symmetries() of an empty hand", Made.census(v, 2, 1, 0).symmetries(), product);
            DUE.is("symmetries() of a block", Made.withHand(v, v - 1, 1, (1 << (v - 1)) - 1).symmetries(), product / v);
        }
    }

    private static void likeLayingsHaveOneForm() {
        DUE.about("like: some renaming takes the one to the other");
        PackingCensus x = Made.put(Made.census(6, 3, 2, 4), 7, 25, 42, 52);
        List<Integer> form = form(x);
        int order = x.symmetries();
        int place = x.find();
        DUE.is("find() is an entry", place >= 0, true);
        for (int n = 0; n < 30; n++) {
            x.swap(n % 6, (n * 5 + 1 + n / 6) % 6);
            DUE.is("form", form(x), form);
            DUE.is("symmetries()", x.symmetries(), order);
            DUE.is("find()", x.find(), place);
        }
    }

    private static void unlikeLayingsOfOneSizeHaveTwo() {
        DUE.about("like: not these, though each point lies in as many blocks");
        PackingCensus ring = Made.withHand(6, 2, 1, 3, 6, 12, 24, 48, 33);
        PackingCensus two = Made.withHand(6, 2, 1, 3, 5, 6, 24, 40, 48);
        DUE.formIs(ring, 3, 5, 10, 20, 40, 48);
        DUE.formIs(two, 3, 5, 6, 24, 40, 48);
        DUE.is("symmetries() of the ring", ring.symmetries(), 12);
        DUE.is("symmetries() of two triangles", two.symmetries(), 72);
    }

    private static void handIsInSomeOrder() {
        DUE.about("hand: a row in some order, no packing perhaps");
        PackingCensus x = Made.withHand(5, 4, 1, 30, 15, 30, 23, 15);
        DUE.handIs(x, 30, 15, 30, 23, 15);
        DUE.formIs(x, 15, 15, 23, 23, 27);
        DUE.handIs(x, 30, 15, 30, 23, 15);
    }

    private static void nextListHasOneBlockMore() {
        DUE.about("list: goes on to the next by one block more");
        PackingCensus x = Made.census(6, 3, 2, 0);
        for (int level = 0; level <= 10; level++) {
            DUE.is("level()", x.level(), level);
            DUE.is("the last block is there", level == 0 || x.block(0, level - 1) > 0, true);
            DUE.is("block(0, " + level + ")", x.block(0, level), NONE);
            x.grow();
        }
    }

    /** A new object for each level and each entry: nothing is promised after 512 calls. */
    private static void listsOf(int v, int k, int lambda) {
        for (int level = 0; level <= 10; level++) {
            PackingCensus x = Made.census(v, k, lambda, level);
            if (x.level() < level) {
                return;
            }
            DUE.about("list of " + v + " " + k + " " + lambda + " at level " + level);
            List<List<Integer>> entries = new ArrayList<>();
            for (int i = 0; i < x.entries(); i++) {
                PackingCensus fresh = Made.census(v, k, lambda, level);
                entries.add(entry(fresh, i));
                entryIsAPackingInARow(entries.get(i), v, k, lambda);
                entryIsItsForm(fresh, i);
                designIsExactlyLambda(fresh, i, v, lambda);
            }
            lessBeforeGreaterEachOnce(entries);
        }
    }

    private static void entryIsAPackingInARow(List<Integer> row, int v, int k, int lambda) {
        int last = 0;
        for (int mask : row) {
            DUE.is("points of a block", Integer.bitCount(mask), k);
            DUE.is("mask within the points", mask < 1 << v, true);
            DUE.is("the lesser before the greater", mask >= last, true);
            last = mask;
        }
        for (int p = 0; p < v; p++) {
            for (int q = 0; q < p; q++) {
                DUE.is(row + " is a packing", together(row, p, q) <= lambda, true);
            }
        }
    }

    private static void entryIsItsForm(PackingCensus x, int i) {
        DUE.is("copy(" + i + ")", x.copy(i), true);
        DUE.is("form of entry " + i, form(x), entry(x, i));
        DUE.is("symmetries() of entry " + i, x.symmetries(), x.order(i));
        DUE.is("find() of entry " + i, x.find(), i);
    }

    private static void designIsExactlyLambda(PackingCensus x, int i, int v, int lambda) {
        List<Integer> row = entry(x, i);
        boolean exactly = true;
        for (int p = 0; p < v; p++) {
            for (int q = 0; q < p; q++) {
                exactly = exactly && together(row, p, q) == lambda;
            }
        }
        DUE.is("design(" + i + ")", x.design(i), exactly);
    }

    private static void lessBeforeGreaterEachOnce(List<List<Integer>> entries) {
        for (int i = 1; i < entries.size(); i++) {
            DUE.is("entry " + (i - 1) + " is less than the next", isLess(entries.get(i - 1), entries.get(i)), true);
        }
    }

    private static boolean isLess(List<Integer> a, List<Integer> b) {
        for (int j = 0; j < a.size(); j++) {
            if (!a.get(j).equals(b.get(j))) {
                return a.get(j) < b.get(j);
            }
        }
        return false;
    }

    private static int together(List<Integer> row, int p, int q) {
        int sum = 0;
        for (int mask : row) {
            sum += (mask >> p & mask >> q & 1);
        }
        return sum;
    }

    private static List<Integer> entry(PackingCensus x, int i) {
        List<Integer> row = new ArrayList<>();
        for (int j = 0; x.block(i, j) != NONE && j < 11; j++) {
            row.add(x.block(i, j));
        }
        return row;
    }

    private static List<Integer> form(PackingCensus x) {
        List<Integer> row = new ArrayList<>();
        for (int j = 0; x.formed(j) != NONE && j < 11; j++) {
            row.add(x.formed(j));
        }
        return row;
    }
}
