import java.util.Arrays;

/** The sentences of promises 13 to 20 that name a boundary: one test each. */
public final class HandEdgesTest {
    private static final int NONE = PackingCensus.NONE;
    private static final int BAD = PackingCensus.BAD;
    private static final int FULL = PackingCensus.FULL;
    private static final int[] TEN = {12, 3, 3, 5, 9, 6, 10, 12, 3, 3};
    private static final Due DUE = new Due();

    public static void main(String[] args) {
        putWithoutCensus();
        putOfAllSmallMasks();
        putOfFarMasks();
        putUpToTen();
        putAnswersBadBeforeFull();
        putAfterTenAndADrop();
        putOfABlockThatIsInTheHand();
        dropWithoutCensus();
        dropOfNoSuchBlock();
        dropOfFirstAndLast();
        dropOfTheOnlyOne();
        dropFromTen();
        swapWithoutCensus();
        swapOfNoPoint();
        swapOfOnePoint();
        swapOfAnEmptyHand();
        swapOfFirstAndLastPoint();
        copyWithoutCensus();
        copyOfNoSuchEntry();
        copyAtLevelZeroEmptiesTheHand();
        copyAtLevelTenFillsTheHand();
        copyOfFirstAndLastEntry();
        handWithoutCensus();
        handAtNoSuchPlace();
        handAfterShrinking();
        formedWithoutCensus();
        formedAtNoSuchPlace();
        formedOfNoPacking();
        formedAfterShrinking();
        symmetriesWithoutCensus();
        symmetriesAtTheirEnds();
        symmetriesOfNoPacking();
        findWithoutCensus();
        findOfAnEmptyHand();
        findOfAnotherLength();
        findOfNoPacking();
        findInAnEmptyList();
        findOfAnEntryOfTheCensusBefore();
        findOfFirstAndLastEntry();
        findAtLevelTen();
        DUE.end();
    }

    private static PackingCensus[] withoutCensus() {
        return new PackingCensus[] {new PackingCensus(), Made.refusedBegin(new PackingCensus())};
    }

    private static PackingCensus tenInHand() {
        return Made.withHand(4, 2, 1, TEN);
    }

    private static int[] times(int count, int mask) {
        int[] masks = new int[count];
        Arrays.fill(masks, mask);
        return masks;
    }

    private static void putWithoutCensus() {
        DUE.about("13: BAD when no census was begun");
        for (PackingCensus x : withoutCensus()) {
            for (int mask = -1; mask <= 64; mask++) {
                DUE.is("put(" + mask + ")", x.put(mask), BAD);
            }
            DUE.handIs(x);
            x.begin(3, 2, 1);
            DUE.handIs(x);
            DUE.is("put(3) as the first", x.put(3), 1);
        }
    }

    private static void putOfAllSmallMasks() {
        DUE.about("13: BAD when the mask is not that of k of the points");
        for (int v = 3; v <= 6; v++) {
            for (int k = 2; k < v; k++) {
                for (int mask = -64; mask <= 128; mask++) {
                    PackingCensus x = Made.census(v, k, 1, 0);
                    boolean isBlock = mask > 0 && mask < 1 << v && Integer.bitCount(mask) == k;
                    DUE.is("put(" + mask + "), " + k + " of " + v, x.put(mask), isBlock ? 1 : BAD);
                    DUE.is("hand(0) then", x.hand(0), isBlock ? mask : NONE);
                }
            }
        }
    }

    private static void putOfFarMasks() {
        DUE.about("13: BAD, far masks");
        for (int v = 3; v <= 6; v++) {
            for (int k = 2; k < v; k++) {
                PackingCensus x = Made.census(v, k, 1, 0);
                int block = (1 << k) - 1;
                for (int shift = 1; shift < 32; shift++) {
                    boolean within = k + shift <= v;
                    DUE.is("put of the first block, moved by " + shift, x.put(block << shift), within ? 1 : BAD);
                    x.drop(0);
                    boolean oneMore = shift >= k;
                    DUE.is("put with bit " + shift, x.put(block | (1 << shift)), oneMore ? BAD : 1);
                    x.drop(0);
                    boolean lastIsPoint = shift >= k - 1 && shift < v;
                    DUE.is("put with bit " + shift + " for the last", x.put(block >> 1 | (1 << shift)), lastIsPoint ? 1 : BAD);
                    x.drop(0);
                }
                for (int mask : new int[] {Integer.MIN_VALUE, Integer.MIN_VALUE | 1, Integer.MAX_VALUE, -1, -block}) {
                    DUE.is("put(" + mask + ")", x.put(mask), BAD);
                }
                DUE.handIs(x);
            }
        }
    }

    private static void putUpToTen() {
        DUE.about("13: FULL when 10 are in the hand");
        PackingCensus x = Made.census(4, 2, 1, 0);
        for (int n = 0; n < 10; n++) {
            DUE.is("put(" + TEN[n] + ")", x.put(TEN[n]), n + 1);
        }
        for (int mask : new int[] {3, 5, 6, 9, 10, 12}) {
            DUE.is("put(" + mask + ")", x.put(mask), FULL);
            DUE.handIs(x, TEN);
        }
        DUE.is("hand(10)", x.hand(10), NONE);
    }

    private static void putAnswersBadBeforeFull() {
        DUE.about("13: else FULL");
        PackingCensus x = tenInHand();
        for (int mask : new int[] {0, 1, 7, 15, 17, 24, 48, -1, 3 << 30, Integer.MIN_VALUE, Integer.MAX_VALUE}) {
            DUE.is("put(" + mask + ")", x.put(mask), BAD);
        }
        DUE.handIs(x, TEN);
    }

    private static void putAfterTenAndADrop() {
        DUE.about("13: room again");
        PackingCensus x = tenInHand();
        x.put(5);
        x.drop(9);
        DUE.is("put(5)", x.put(5), 10);
        DUE.is("hand(9)", x.hand(9), 5);
        DUE.is("put(5)", x.put(5), FULL);
        x.begin(4, 2, 1);
        DUE.is("put(5) after begin", x.put(5), 1);
    }

    private static void putOfABlockThatIsInTheHand() {
        DUE.about("13: which may be in it already");
        PackingCensus x = Made.census(6, 3, 1, 0);
        for (int n = 1; n <= 10; n++) {
            DUE.is("put(56)", x.put(56), n);
        }
        DUE.handIs(x, times(10, 56));
    }

    private static void dropWithoutCensus() {
        DUE.about("14: no census");
        for (PackingCensus x : withoutCensus()) {
            DUE.is("drop(0)", x.drop(0), false);
            for (int j : Outside.of(0)) {
                DUE.is("drop(" + j + ")", x.drop(j), false);
            }
        }
    }

    private static void dropOfNoSuchBlock() {
        DUE.about("14: false when there is none");
        for (int size = 0; size <= 10; size++) {
            int[] masks = Arrays.copyOf(TEN, size);
            PackingCensus x = Made.withHand(4, 2, 1, masks);
            for (int j : Outside.of(size)) {
                DUE.is("drop(" + j + ") of " + size, x.drop(j), false);
            }
            DUE.handIs(x, masks);
        }
    }

    private static void dropOfFirstAndLast() {
        DUE.about("14: those behind it move up");
        PackingCensus x = Made.withHand(4, 2, 1, 3, 5, 9, 6);
        DUE.is("drop(0)", x.drop(0), true);
        DUE.handIs(x, 5, 9, 6);
        DUE.is("drop(2)", x.drop(2), true);
        DUE.handIs(x, 5, 9);
        DUE.is("drop(2)", x.drop(2), false);
        DUE.handIs(x, 5, 9);
    }

    private static void dropOfTheOnlyOne() {
        DUE.about("14: the only one");
        PackingCensus x = Made.withHand(5, 3, 1, 28);
        DUE.is("drop(1)", x.drop(1), false);
        DUE.is("drop(0)", x.drop(0), true);
        DUE.handIs(x);
        DUE.is("drop(0)", x.drop(0), false);
        DUE.is("symmetries()", x.symmetries(), 120);
        DUE.is("find()", x.find(), 0);
    }

    private static void dropFromTen() {
        DUE.about("14: from ten");
        for (int j = 0; j < 10; j++) {
            PackingCensus x = tenInHand();
            DUE.is("drop(" + j + ")", x.drop(j), true);
            int[] left = Arrays.copyOf(TEN, 9);
            System.arraycopy(TEN, j + 1, left, j, 9 - j);
            DUE.handIs(x, left);
        }
        DUE.is("drop(10)", tenInHand().drop(10), false);
    }

    private static void swapWithoutCensus() {
        DUE.about("15: no census");
        for (PackingCensus x : withoutCensus()) {
            DUE.is("swap(0, 0)", x.swap(0, 0), false);
            DUE.is("swap(0, 1)", x.swap(0, 1), false);
            for (int n : Outside.of(0)) {
                DUE.is("swap(" + n + ", " + n + ")", x.swap(n, n), false);
                DUE.is("swap(0, " + n + ")", x.swap(0, n), false);
            }
        }
    }

    private static void swapOfNoPoint() {
        DUE.about("15: p or q is no point");
        for (int v = 3; v <= 6; v++) {
            PackingCensus x = Made.withHand(v, 2, 1, 3, 5, 6);
            for (int n : Outside.of(v)) {
                DUE.is("swap(1, " + n + ")", x.swap(1, n), false);
                DUE.is("swap(" + n + ", 1)", x.swap(n, 1), false);
                DUE.is("swap(" + n + ", " + n + ")", x.swap(n, n), false);
            }
            DUE.handIs(x, 3, 5, 6);
        }
    }

    private static void swapOfOnePoint() {
        DUE.about("15: p and q may be one");
        for (int v = 3; v <= 6; v++) {
            int[] masks = {3, 6, 3 << (v - 2)};
            PackingCensus x = Made.withHand(v, 2, 1, masks);
            for (int p = 0; p < v; p++) {
                DUE.is("swap(" + p + ", " + p + ")", x.swap(p, p), true);
                DUE.handIs(x, masks);
            }
        }
    }

    private static void swapOfAnEmptyHand() {
        DUE.about("15: an empty hand");
        PackingCensus x = Made.census(3, 2, 1, 0);
        DUE.is("swap(0, 2)", x.swap(0, 2), true);
        DUE.is("swap(2, 2)", x.swap(2, 2), true);
        DUE.is("swap(2, 3)", x.swap(2, 3), false);
        DUE.handIs(x);
    }

    private static void swapOfFirstAndLastPoint() {
        DUE.about("15: the first and the last point");
        for (int v = 3; v <= 6; v++) {
            int last = 1 << (v - 1);
            int both = 1 | last;
            PackingCensus x = Made.withHand(v, 2, 1, 3, both, 2 | last);
            DUE.is("swap(0, v - 1)", x.swap(0, v - 1), true);
            DUE.handIs(x, 2 | last, both, 3);
            DUE.is("swap(v - 1, 0)", x.swap(v - 1, 0), true);
            DUE.handIs(x, 3, both, 2 | last);
        }
        PackingCensus ten = tenInHand();
        DUE.is("swap(1, 2) of ten", ten.swap(1, 2), true);
        DUE.handIs(ten, 10, 5, 5, 3, 9, 6, 12, 10, 5, 5);
    }

    private static void copyWithoutCensus() {
        DUE.about("16: no census");
        for (PackingCensus x : withoutCensus()) {
            DUE.is("copy(0)", x.copy(0), false);
            for (int i : Outside.of(0)) {
                DUE.is("copy(" + i + ")", x.copy(i), false);
            }
            DUE.handIs(x);
        }
    }

    private static void copyOfNoSuchEntry() {
        DUE.about("16: no such entry");
        PackingCensus x = Made.put(Made.census(6, 2, 1, 3), 48, 3);
        for (int i : Outside.of(5)) {
            DUE.is("copy(" + i + ")", x.copy(i), false);
        }
        DUE.handIs(x, 48, 3);
        PackingCensus empty = Made.put(Made.census(4, 3, 1, 2), 14);
        for (int i = -1; i <= 1; i++) {
            DUE.is("copy(" + i + ") of an empty list", empty.copy(i), false);
        }
        DUE.handIs(empty, 14);
        PackingCensus shorter = Made.put(Made.census(6, 2, 1, 10), 48);
        DUE.is("copy(15), of a list that was longer", shorter.copy(15), false);
        DUE.handIs(shorter, 48);
    }

    private static void copyAtLevelZeroEmptiesTheHand() {
        DUE.about("16: the row without masks");
        PackingCensus x = tenInHand();
        DUE.is("copy(1)", x.copy(1), false);
        DUE.handIs(x, TEN);
        DUE.is("copy(0)", x.copy(0), true);
        DUE.handIs(x);
        DUE.is("symmetries()", x.symmetries(), 24);
        DUE.is("find()", x.find(), 0);
        DUE.is("put(3)", x.put(3), 1);
    }

    private static void copyAtLevelTenFillsTheHand() {
        DUE.about("16: ten blocks");
        PackingCensus x = Made.put(Made.census(5, 2, 1, 10), 24, 24);
        DUE.is("copy(0)", x.copy(0), true);
        DUE.handIs(x, 3, 5, 6, 9, 10, 12, 17, 18, 20, 24);
        DUE.is("put(3)", x.put(3), FULL);
        DUE.is("drop(9)", x.drop(9), true);
        DUE.is("block(0, 9) of the entry", x.block(0, 9), 24);
    }

    private static void copyOfFirstAndLastEntry() {
        DUE.about("16: the first and the last entry");
        PackingCensus x = Made.put(Made.census(6, 2, 1, 3), 3, 3, 3, 3, 3);
        DUE.is("copy(0)", x.copy(0), true);
        DUE.handIs(x, 3, 5, 6);
        DUE.is("copy(4)", x.copy(4), true);
        DUE.handIs(x, 3, 12, 48);
    }

    private static void handWithoutCensus() {
        DUE.about("17: no census");
        for (PackingCensus x : withoutCensus()) {
            for (int j : Outside.of(0)) {
                DUE.is("hand(" + j + ")", x.hand(j), NONE);
            }
        }
    }

    private static void handAtNoSuchPlace() {
        DUE.about("17: none there");
        for (int size = 0; size <= 10; size++) {
            PackingCensus x = Made.withHand(4, 2, 1, Arrays.copyOf(TEN, size));
            DUE.handIs(x, Arrays.copyOf(TEN, size));
            for (int j : Outside.of(size)) {
                DUE.is("hand(" + j + ") of " + size, x.hand(j), NONE);
            }
        }
    }

    private static void handAfterShrinking() {
        DUE.about("17: what is no longer there");
        PackingCensus x = tenInHand();
        x.drop(0);
        DUE.is("hand(9) after drop", x.hand(9), NONE);
        x.grow();
        x.copy(0);
        DUE.handIs(x, 3);
        x.begin(4, 2, 1);
        DUE.handIs(x);
    }

    private static void formedWithoutCensus() {
        DUE.about("18: no census");
        for (PackingCensus x : withoutCensus()) {
            for (int j : Outside.of(0)) {
                DUE.is("formed(" + j + ")", x.formed(j), NONE);
            }
        }
    }

    private static void formedAtNoSuchPlace() {
        DUE.about("18: no such place");
        for (int size = 0; size <= 10; size++) {
            PackingCensus x = Made.withHand(6, 5, 1, times(size, 62));
            for (int j : Outside.of(size)) {
                DUE.is("formed(" + j + ") of " + size, x.formed(j), NONE);
            }
            DUE.formIs(x, times(size, 31));
            DUE.handIs(x, times(size, 62));
        }
    }

    private static void formedOfNoPacking() {
        DUE.about("18: the hand need not be a packing");
        DUE.formIs(Made.withHand(3, 2, 1, 5, 6, 6), 3, 3, 5);
        DUE.formIs(Made.withHand(6, 4, 1, 60, 57, 60), 15, 15, 23);
        DUE.formIs(Made.withHand(4, 2, 1, 12, 12, 12, 12, 12, 3, 3, 3, 3, 3), 3, 3, 3, 3, 3, 12, 12, 12, 12, 12);
    }

    private static void formedAfterShrinking() {
        DUE.about("18: what is no longer there");
        PackingCensus x = Made.withHand(5, 3, 2, 28, 28, 7);
        DUE.formIs(x, 7, 7, 25);
        x.drop(0);
        DUE.formIs(x, 7, 25);
        x.copy(0);
        DUE.formIs(x);
        x.put(25);
        DUE.formIs(x, 7);
        x.begin(5, 3, 2);
        DUE.formIs(x);
    }

    private static void symmetriesWithoutCensus() {
        DUE.about("19: no census");
        for (PackingCensus x : withoutCensus()) {
            DUE.is("symmetries()", x.symmetries(), NONE);
            x.put(3);
            DUE.is("symmetries() after a refused put", x.symmetries(), NONE);
        }
    }

    private static void symmetriesAtTheirEnds() {
        DUE.about("19: all renamings, one alone");
        int[] renamings = {6, 24, 120, 720};
        for (int v = 3; v <= 6; v++) {
            PackingCensus x = Made.census(v, 2, 1, 0);
            DUE.is("symmetries() of an empty hand", x.symmetries(), renamings[v - 3]);
            x.begin(v, 2, 1);
            DUE.is("symmetries() after begin", x.symmetries(), renamings[v - 3]);
            DUE.is("symmetries() of an empty hand in an empty list", Made.census(v, v - 1, 1, 10).symmetries(), renamings[v - 3]);
        }
        DUE.is("symmetries() of 6 5 6", Made.withHand(3, 2, 2, 6, 5, 6).symmetries(), 1);
    }

    private static void symmetriesOfNoPacking() {
        DUE.about("19: the hand need not be a packing");
        DUE.is("symmetries() of ten times 48", Made.withHand(6, 2, 1, times(10, 48)).symmetries(), 48);
        DUE.is("symmetries() of all, one twice", Made.withHand(3, 2, 1, 3, 5, 6, 6).symmetries(), 2);
        DUE.is("symmetries() of all twice", Made.withHand(3, 2, 1, 3, 5, 6, 6, 5, 3).symmetries(), 6);
    }

    private static void findWithoutCensus() {
        DUE.about("20: no census");
        for (PackingCensus x : withoutCensus()) {
            DUE.is("find()", x.find(), NONE);
        }
    }

    private static void findOfAnEmptyHand() {
        DUE.about("20: an empty hand");
        PackingCensus x = Made.census(5, 3, 2, 0);
        DUE.is("find() at level 0", x.find(), 0);
        for (int level = 1; level <= 10; level++) {
            x.grow();
            DUE.is("find() at level " + level, x.find(), NONE);
        }
    }

    private static void findOfAnotherLength() {
        DUE.about("20: a block too few or too many");
        PackingCensus x = Made.put(Made.census(6, 2, 1, 3), 48, 40);
        DUE.is("find() of two at level 3", x.find(), NONE);
        x.put(3);
        DUE.is("find() of three at level 3", x.find(), 3);
        x.put(5);
        DUE.is("find() of four at level 3", x.find(), NONE);
        x.grow();
        DUE.is("find() of four at level 4 is there", x.find() >= 0, true);
        x.drop(3);
        DUE.is("find() of three at level 4", x.find(), NONE);
    }

    private static void findOfNoPacking() {
        DUE.about("20: a hand whose form is no entry");
        PackingCensus x = Made.put(Made.census(6, 2, 1, 3), 48, 3, 3);
        DUE.is("find() of 48 3 3", x.find(), NONE);
        PackingCensus once = Made.put(Made.census(6, 2, 1, 10), times(10, 3));
        DUE.is("find() of ten times 3", once.find(), NONE);
        PackingCensus twice = Made.put(Made.census(6, 2, 2, 3), 48, 3, 3);
        DUE.is("find() of 48 3 3 with lambda 2 is there", twice.find() >= 0, true);
        twice.drop(0);
        twice.put(3);
        DUE.is("find() of 3 3 3 with lambda 2", twice.find(), NONE);
    }

    private static void findInAnEmptyList() {
        DUE.about("20: a list without entries");
        PackingCensus x = Made.census(6, 5, 1, 2);
        DUE.is("find() of nothing", x.find(), NONE);
        x.put(31);
        DUE.is("find() of one", x.find(), NONE);
        x.put(62);
        DUE.is("find() of two", x.find(), NONE);
    }

    private static void findOfAnEntryOfTheCensusBefore() {
        DUE.about("20: an entry of the census before alone");
        for (int level = 2; level <= 4; level++) {
            PackingCensus x = Made.census(4, 3, 2, level);
            x.begin(4, 3, 1);
            x.grow();
            x.grow();
            Made.put(x, 14, 13);
            DUE.is("find() of 14 13 with lambda 1", x.find(), NONE);
            x.drop(1);
            x.put(14);
            DUE.is("find() of 14 14 with lambda 1", x.find(), NONE);
        }
    }

    private static void findOfFirstAndLastEntry() {
        DUE.about("20: the first and the last entry");
        PackingCensus x = Made.put(Made.census(6, 2, 1, 3), 40, 24, 48);
        DUE.is("find() of a triangle", x.find(), 0);
        x.copy(4);
        x.swap(0, 3);
        DUE.is("find() of three apart", x.find(), 4);
        PackingCensus longest = Made.census(4, 2, 4, 8);
        longest.copy(54);
        DUE.is("find() of entry 54", longest.find(), 54);
        longest.grow();
        DUE.is("find() of entry 54 after FULL", longest.find(), 54);
        longest.begin(4, 2, 4);
        DUE.is("find() after begin", longest.find(), 0);
    }

    private static void findAtLevelTen() {
        DUE.about("20: ten blocks");
        PackingCensus x = Made.census(6, 2, 1, 10);
        x.copy(14);
        x.swap(1, 5);
        DUE.is("find()", x.find(), 14);
        x.drop(0);
        DUE.is("find() of nine", x.find(), NONE);
    }
}
