import java.util.ArrayList;
import java.util.List;
import java.util.function.Consumer;
import java.util.function.Function;
import java.util.function.Supplier;

/**
 * "A call that is refused changes nothing": each call that can be refused, with all kinds of wrong
 * numbers, in objects of all kinds; the same for questions about what there is not.
 */
public final class RefusedTest {
    private static final int NONE = PackingCensus.NONE;
    private static final int BAD = PackingCensus.BAD;
    private static final int FULL = PackingCensus.FULL;
    private static final int AT_A_TIME = 50;
    private static final int[] TEN = {12, 3, 3, 5, 9, 6, 10, 12, 3, 3};
    private static final int[][] NO_CENSUS = {
        {2, 2, 1}, {7, 2, 1}, {3, 1, 1}, {3, 3, 1}, {4, 4, 2}, {5, 5, 3}, {6, 6, 4}, {6, 1, 1}, {6, 3, 0},
        {6, 3, 5}, {4, 2, -1}, {0, 0, 0}, {-3, -2, -1}, {16, 6, 1}, {Integer.MIN_VALUE, 2, 1},
        {Integer.MAX_VALUE, 2, 1}, {6, Integer.MIN_VALUE, 1}, {6, Integer.MAX_VALUE, 1},
        {6, 3, Integer.MIN_VALUE}, {6, 3, Integer.MAX_VALUE}
    };

    private final Due due;
    private final String name;
    private final Supplier<PackingCensus> making;
    private final List<Consumer<PackingCensus>> refusedCalls = new ArrayList<>();
    private final List<String> inBrief;
    private int points = 0;
    private int blockSize = 0;
    private int entries = 0;
    private int inHand = 0;

    private RefusedTest(Due due, String name, Supplier<PackingCensus> making) {
        this.due = due;
        this.name = name;
        this.making = making;
        inBrief = State.inBrief(making);
    }

    public static void main(String[] args) {
        Due due = new Due();
        new RefusedTest(due, "a new object", PackingCensus::new).run(NONE);
        new RefusedTest(due, "no census but refused ones", () -> Made.refusedBegin(new PackingCensus())).run(NONE);
        new RefusedTest(due, "level 0", () -> Made.census(3, 2, 1, 0)).has(3, 2, 1, 0).run(0);
        new RefusedTest(due, "a hand of three", () -> Made.put(Made.census(5, 3, 2, 2), 7, 28, 7)).has(5, 3, 3, 3).run(0);
        new RefusedTest(due, "a hand whose form was asked", RefusedTest::withFormAsked).has(5, 3, 3, 3).run(0);
        new RefusedTest(due, "an empty list", () -> Made.put(Made.census(6, 5, 1, 2), 31)).has(6, 5, 0, 1).run(0);
        new RefusedTest(due, "ten in the hand", () -> Made.put(Made.census(4, 2, 1, 3), TEN)).has(4, 2, 3, 10).run(0);
        new RefusedTest(due, "level 10", () -> Made.put(Made.census(4, 2, 2, 10), TEN)).has(4, 2, 3, 10).run(FULL);
        new RefusedTest(due, "level 10, no entries", () -> Made.census(4, 3, 1, 10)).has(4, 3, 0, 0).run(FULL);
        new RefusedTest(due, "55 entries", () -> Made.put(Made.census(4, 2, 4, 8), 5)).has(4, 2, 55, 1).run(FULL);
        new RefusedTest(due, "55 entries, refused before", RefusedTest::refusedBefore).has(4, 2, 55, 2).run(FULL);
        new RefusedTest(due, "a second census", RefusedTest::secondCensus).has(3, 2, 2, 2).run(0);
        due.end();
    }

    private static PackingCensus withFormAsked() {
        PackingCensus x = Made.put(Made.census(5, 3, 2, 2), 28, 7, 28);
        x.formed(0);
        x.symmetries();
        x.find();
        return x;
    }

    private static PackingCensus refusedBefore() {
        PackingCensus x = Made.put(Made.census(4, 2, 4, 8), 6, 6);
        x.grow();
        return x;
    }

    /** The census before it has more points, more entries and more in the hand. */
    private static PackingCensus secondCensus() {
        PackingCensus x = Made.put(Made.census(6, 2, 1, 7), 3, 48, 33);
        x.begin(3, 2, 2);
        x.grow();
        x.grow();
        return Made.put(x, 6, 5);
    }

    private RefusedTest has(int v, int k, int entryCount, int handCount) {
        points = v;
        blockSize = k;
        entries = entryCount;
        inHand = handCount;
        return this;
    }

    /** The answer is that of a refused grow call, or 0 when grow is not refused. */
    private void run(int growAnswer) {
        due.about(name);
        due.is("entries()", making.get().entries(), entries);
        due.is("what the hand has", making.get().drop(inHand - 1) && !making.get().drop(inHand), inHand > 0);
        if (growAnswer != 0) {
            refused("grow()", PackingCensus::grow, growAnswer);
        }
        refusedBegin();
        refusedPut();
        refusedDrop();
        refusedSwap();
        refusedCopy();
        noSuchEntry();
        noSuchPlaceOrPoint();
        nothingHasChanged();
    }

    private void refused(String call, Function<PackingCensus, Object> asked, Object want) {
        PackingCensus x = making.get();
        due.is(call, asked.apply(x), want);
        due.is(call + " once more", asked.apply(x), want);
        due.is("what is seen after " + call, firstDifference(inBrief, State.inBrief(() -> x)), "");
        refusedCalls.add(asked::apply);
    }

    private void refusedBegin() {
        for (int[] n : NO_CENSUS) {
            refused("begin(" + n[0] + ", " + n[1] + ", " + n[2] + ")", x -> x.begin(n[0], n[1], n[2]), BAD);
        }
    }

    private void refusedPut() {
        for (int mask : new int[] {0, 1, 2, 32, 63, 64, 65, 96, -1, -4, 3 << 30, Integer.MIN_VALUE, Integer.MAX_VALUE}) {
            refused("put(" + mask + ")", x -> x.put(mask), BAD);
        }
        for (int mask = 3; mask < 64; mask++) {
            int block = mask;
            boolean isBlock = mask < 1 << points && Integer.bitCount(mask) == blockSize;
            if (!isBlock) {
                refused("put(" + block + ")", x -> x.put(block), BAD);
            } else if (inHand == 10) {
                refused("put(" + block + ")", x -> x.put(block), FULL);
            }
        }
    }

    private void refusedDrop() {
        for (int j : Outside.of(inHand)) {
            refused("drop(" + j + ")", x -> x.drop(j), false);
        }
    }

    private void refusedSwap() {
        for (int n : Outside.of(points)) {
            refused("swap(0, " + n + ")", x -> x.swap(0, n), false);
            refused("swap(" + n + ", 1)", x -> x.swap(n, 1), false);
            refused("swap(" + n + ", " + n + ")", x -> x.swap(n, n), false);
        }
    }

    private void refusedCopy() {
        for (int i : Outside.of(entries)) {
            refused("copy(" + i + ")", x -> x.copy(i), false);
        }
    }

    private void noSuchEntry() {
        for (int i : Outside.of(entries)) {
            refused("block(" + i + ", 0)", x -> x.block(i, 0), NONE);
            refused("order(" + i + ")", x -> x.order(i), NONE);
            refused("together(" + i + ", 0, 1)", x -> x.together(i, 0, 1), NONE);
            refused("design(" + i + ")", x -> x.design(i), false);
            refused("orbit(" + i + ", 0)", x -> x.orbit(i, 0), NONE);
        }
    }

    private void noSuchPlaceOrPoint() {
        int level = Math.max(making.get().level(), 0);
        for (int j : Outside.of(level)) {
            refused("block(0, " + j + ")", x -> x.block(0, j), NONE);
        }
        for (int p : Outside.of(points)) {
            refused("together(0, " + p + ", 0)", x -> x.together(0, p, 0), NONE);
            refused("together(0, 0, " + p + ")", x -> x.together(0, 0, p), NONE);
            refused("together(0, " + p + ", " + p + ")", x -> x.together(0, p, p), NONE);
            refused("orbit(0, " + p + ")", x -> x.orbit(0, p), NONE);
        }
        for (int j : Outside.of(inHand)) {
            refused("hand(" + j + ")", x -> x.hand(j), NONE);
            refused("formed(" + j + ")", x -> x.formed(j), NONE);
        }
    }

    /** Some refused calls at a time on one object: all that can be seen is as without them. */
    private void nothingHasChanged() {
        List<String> before = State.of(making);
        for (int from = 0; from < refusedCalls.size(); from += AT_A_TIME) {
            int end = Math.min(from + AT_A_TIME, refusedCalls.size());
            List<Consumer<PackingCensus>> some = refusedCalls.subList(from, end);
            List<String> after = State.of(() -> afterCalls(some));
            due.is("what is seen after refused calls " + from + " and on", firstDifference(before, after), "");
        }
    }

    private PackingCensus afterCalls(List<Consumer<PackingCensus>> calls) {
        PackingCensus x = making.get();
        for (Consumer<PackingCensus> call : calls) {
            call.accept(x);
        }
        return x;
    }

    private static String firstDifference(List<String> before, List<String> after) {
        for (int n = 0; n < Math.max(before.size(), after.size()); n++) {
            String was = n < before.size() ? before.get(n) : "nothing";
            String is = n < after.size() ? after.get(n) : "nothing";
            if (!was.equals(is)) {
                return was + ", then " + is;
            }
        }
        return "";
    }
}
