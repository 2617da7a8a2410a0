import java.util.ArrayList;
import java.util.Arrays;
import java.util.HashMap;
import java.util.HashSet;
import java.util.List;
import java.util.Map;
import java.util.Set;
import java.util.TreeSet;

/**
 * The document's words taken one by one, by trying all renamings and all packings: slow, and
 * sharing no thought with the program that it is held against.
 */
final class PlainCensus {
    private static final int NONE = -1;
    private static final int BAD = -2;
    private static final int FRACTION = -3;
    private static final int FISHER = -4;
    private static final int FULL = -5;

    /** The lists once made, by v, k, lambda and level, for all objects: they take long. */
    private static final Map<List<Integer>, List<List<Integer>>> LISTS = new HashMap<>();
    private static final Map<List<Integer>, Integer> LABELLED = new HashMap<>();
    private static final Map<Integer, List<int[]>> RENAMINGS = new HashMap<>();

    private int v = 0;
    private int k = 0;
    private int lambda = 0;
    private int level = NONE;
    private List<List<Integer>> list = List.of();
    private List<Integer> hand = new ArrayList<>();

    int begin(int points, int size, int most) {
        if (points < 3 || points > 6 || size < 2 || size > points - 1 || most < 1 || most > 4) {
            return BAD;
        }
        v = points;
        k = size;
        lambda = most;
        level = 0;
        list = listAt(0);
        hand = new ArrayList<>();
        double r = (double) lambda * (v - 1) / (k - 1);
        double b = v * r / k;
        if (r != Math.rint(r) || b != Math.rint(b)) {
            return FRACTION;
        }
        return b < v ? FISHER : (int) b;
    }

    int grow() {
        if (level == NONE) {
            return NONE;
        }
        if (level == 10 || listAt(level + 1).size() > 60) {
            return FULL;
        }
        level++;
        list = listAt(level);
        return list.size();
    }

    int level() {
        return level;
    }

    int entries() {
        return list.size();
    }

    int block(int i, int j) {
        return isEntry(i) && j >= 0 && j < level ? list.get(i).get(j) : NONE;
    }

    int order(int i) {
        return isEntry(i) ? fixing(list.get(i)).size() : NONE;
    }

    int labelled() {
        return level == NONE ? 0 : LABELLED.get(List.of(v, k, lambda, level));
    }

    int together(int i, int p, int q) {
        return isEntry(i) && isPoint(p) && isPoint(q) ? pairs(list.get(i), p, q) : NONE;
    }

    boolean design(int i) {
        if (!isEntry(i)) {
            return false;
        }
        for (int p = 0; p < v; p++) {
            for (int q = 0; q < v; q++) {
                if (p != q && pairs(list.get(i), p, q) != lambda) {
                    return false;
                }
            }
        }
        return true;
    }

    int designs() {
        int sum = 0;
        for (int i = 0; i < list.size(); i++) {
            sum += design(i) ? 1 : 0;
        }
        return sum;
    }

    int orbit(int i, int p) {
        if (!isEntry(i) || !isPoint(p)) {
            return NONE;
        }
        int least = p;
        for (int[] renaming : fixing(list.get(i))) {
            least = Math.min(least, renaming[p]);
        }
        return least;
    }

    int put(int mask) {
        if (level == NONE || !masksOfBlocks().contains(mask)) {
            return BAD;
        }
        if (hand.size() == 10) {
            return FULL;
        }
        hand.add(mask);
        return hand.size();
    }

    boolean drop(int j) {
        if (j < 0 || j >= hand.size()) {
            return false;
        }
        hand.remove(j);
        return true;
    }

    boolean swap(int p, int q) {
        if (!isPoint(p) || !isPoint(q)) {
            return false;
        }
        int[] renaming = new int[v];
        for (int x = 0; x < v; x++) {
            renaming[x] = x == p ? q : x == q ? p : x;
        }
        hand.replaceAll(mask -> renamed(mask, renaming));
        return true;
    }

    boolean copy(int i) {
        if (!isEntry(i)) {
            return false;
        }
        hand = new ArrayList<>(list.get(i));
        return true;
    }

    int hand(int j) {
        return j >= 0 && j < hand.size() ? hand.get(j) : NONE;
    }

    int formed(int j) {
        return j >= 0 && j < hand.size() ? form(hand).get(j) : NONE;
    }

    int symmetries() {
        return level == NONE ? NONE : fixing(row(hand)).size();
    }

    int find() {
        return level == NONE ? NONE : list.indexOf(form(hand));
    }

    private boolean isEntry(int i) {
        return i >= 0 && i < list.size();
    }

    private boolean isPoint(int p) {
        return p >= 0 && p < v;
    }

    private Set<Integer> masksOfBlocks() {
        Set<Integer> masks = new TreeSet<>();
        for (int mask = 0; mask < 1 << v; mask++) {
            if (Integer.bitCount(mask) == k) {
                masks.add(mask);
            }
        }
        return masks;
    }

    private int pairs(List<Integer> row, int p, int q) {
        int sum = 0;
        for (int mask : row) {
            sum += (mask >> p) % 2 == 1 && (mask >> q) % 2 == 1 ? 1 : 0;
        }
        return sum;
    }

    private int renamed(int mask, int[] renaming) {
        int sum = 0;
        for (int p = 0; p < v; p++) {
            sum += (mask >> p) % 2 == 1 ? 1 << renaming[p] : 0;
        }
        return sum;
    }

    private List<Integer> renamed(List<Integer> laying, int[] renaming) {
        List<Integer> masks = new ArrayList<>();
        for (int mask : laying) {
            masks.add(renamed(mask, renaming));
        }
        return row(masks);
    }

    private static List<Integer> row(List<Integer> laying) {
        List<Integer> sorted = new ArrayList<>(laying);
        sorted.sort(null);
        return sorted;
    }

    private List<Integer> form(List<Integer> laying) {
        List<Integer> least = row(laying);
        for (int[] renaming : renamings()) {
            List<Integer> like = renamed(laying, renaming);
            least = compare(like, least) < 0 ? like : least;
        }
        return least;
    }

    private List<int[]> fixing(List<Integer> row) {
        List<int[]> fixing = new ArrayList<>();
        for (int[] renaming : renamings()) {
            if (renamed(row, renaming).equals(row)) {
                fixing.add(renaming);
            }
        }
        return fixing;
    }

    private static int compare(List<Integer> a, List<Integer> b) {
        for (int j = 0; j < a.size(); j++) {
            if (!a.get(j).equals(b.get(j))) {
                return a.get(j) - b.get(j);
            }
        }
        return 0;
    }

    private List<int[]> renamings() {
        return RENAMINGS.computeIfAbsent(v, n -> {
            List<int[]> all = new ArrayList<>();
            addRenamings(new int[n], 0, all);
            return all;
        });
    }

    private static void addRenamings(int[] renaming, int p, List<int[]> all) {
        if (p == renaming.length) {
            all.add(renaming.clone());
            return;
        }
        for (int q = 0; q < renaming.length; q++) {
            int image = q;
            if (Arrays.stream(renaming, 0, p).noneMatch(x -> x == image)) {
                renaming[p] = q;
                addRenamings(renaming, p + 1, all);
            }
        }
    }

    private List<List<Integer>> listAt(int n) {
        List<Integer> key = List.of(v, k, lambda, n);
        if (!LISTS.containsKey(key)) {
            Set<List<Integer>> packings = new HashSet<>();
            addPackings(new ArrayList<>(), n, packings);
            LABELLED.put(key, packings.size());
            LISTS.put(key, formsOf(packings));
        }
        return LISTS.get(key);
    }

    private void addPackings(List<Integer> row, int n, Set<List<Integer>> packings) {
        if (row.size() == n) {
            packings.add(new ArrayList<>(row));
            return;
        }
        for (int mask : masksOfBlocks()) {
            if (row.isEmpty() || mask >= row.get(row.size() - 1)) {
                row.add(mask);
                if (isPacking(row)) {
                    addPackings(row, n, packings);
                }
                row.remove(row.size() - 1);
            }
        }
    }

    private boolean isPacking(List<Integer> row) {
        for (int p = 0; p < v; p++) {
            for (int q = 0; q < p; q++) {
                if (pairs(row, p, q) > lambda) {
                    return false;
                }
            }
        }
        return true;
    }

    private List<List<Integer>> formsOf(Set<List<Integer>> packings) {
        List<List<Integer>> forms = new ArrayList<>();
        Set<List<Integer>> seen = new HashSet<>();
        for (List<Integer> packing : packings) {
            if (seen.contains(packing)) {
                continue;
            }
            List<Integer> least = packing;
            for (int[] renaming : renamings()) {
                List<Integer> like = renamed(packing, renaming);
                seen.add(like);
                least = compare(like, least) < 0 ? like : least;
            }
            forms.add(least);
        }
        forms.sort(PlainCensus::compare);
        return forms;
    }
}
