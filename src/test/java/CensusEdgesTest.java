/** The sentences of promises 1 to 5, and of the terms that they use, that name a boundary: one test each. */
public final class CensusEdgesTest {
    private static final int NONE = PackingCensus.NONE;
    private static final int BAD = PackingCensus.BAD;
    private static final int FRACTION = PackingCensus.FRACTION;
    private static final int FULL = PackingCensus.FULL;
    private static final int LEAST = Integer.MIN_VALUE;
    private static final int MOST = Integer.MAX_VALUE;
    private static final Due DUE = new Due();

    public static void main(String[] args) {
        newObjectHasNoCensus();
        newObjectHasNoHand();
        pointsAreThreeToSix();
        blockSizeIsTwoToOneLessThanThePoints();
        lambdaIsOneToFour();
        badComesBeforeWhatADesignNeeds();
        answerForAllSmallNumbers();
        answerForFarNumbers();
        fisherIsOutOfReach();
        fractionBeginsACensus();
        beginComesInsteadOfTheOneBefore();
        levelZeroIsTheSameAfterAnyLevel();
        beginAfterFullGrowsAgain();
        beginOfTheSameNumbersStartsAnew();
        growWithoutCensusIsNone();
        growToAListWithoutEntries();
        growIsFullAtLevelTen();
        growIsFullAtLevelTenWithoutEntries();
        growIsFullBeyondSixtyEntries();
        growTakesFiftyFiveEntries();
        noCensusGoesBeyondTheLimits();
        levelWithoutCensus();
        levelAtItsEnds();
        entriesWithoutCensus();
        entriesAtTheirEnds();
        levelZeroHasTheRowWithoutMasks();
        lambdaTimesIsAPackingAndOnceMoreIsNot();
        DUE.end();
    }

    private static void begin(int v, int k, int lambda, int want) {
        PackingCensus x = new PackingCensus();
        DUE.is("begin(" + v + ", " + k + ", " + lambda + ")", x.begin(v, k, lambda), want);
        DUE.is("level() then", x.level(), want == BAD ? NONE : 0);
    }

    private static void newObjectHasNoCensus() {
        DUE.about("1: no census");
        DUE.is("level()", new PackingCensus().level(), NONE);
        DUE.is("entries()", new PackingCensus().entries(), 0);
        DUE.is("grow()", new PackingCensus().grow(), NONE);
        DUE.is("find()", new PackingCensus().find(), NONE);
        DUE.is("symmetries()", new PackingCensus().symmetries(), NONE);
        DUE.is("swap(0, 0)", new PackingCensus().swap(0, 0), false);
        for (int mask = 0; mask < 64; mask++) {
            DUE.is("put(" + mask + ")", new PackingCensus().put(mask), BAD);
        }
    }

    private static void newObjectHasNoHand() {
        DUE.about("1: no hand");
        for (int j : Outside.of(0)) {
            DUE.is("hand(" + j + ")", new PackingCensus().hand(j), NONE);
            DUE.is("formed(" + j + ")", new PackingCensus().formed(j), NONE);
            DUE.is("drop(" + j + ")", new PackingCensus().drop(j), false);
        }
        DUE.is("hand(0)", new PackingCensus().hand(0), NONE);
    }

    private static void pointsAreThreeToSix() {
        DUE.about("2: v is not 3 .. 6");
        begin(2, 2, 1, BAD);
        begin(2, 1, 1, BAD);
        begin(3, 2, 1, 3);
        begin(6, 2, 1, 15);
        begin(7, 2, 1, BAD);
        begin(7, 3, 1, BAD);
        for (int v : new int[] {LEAST, LEAST + 3, -6, -3, -1, 0, 1, 8, 32, 35, 256 + 4, 65536 + 4, MOST - 1, MOST}) {
            begin(v, 2, 1, BAD);
        }
    }

    private static void blockSizeIsTwoToOneLessThanThePoints() {
        DUE.about("2: k is not 2 .. v - 1");
        int[] pairs = {0, 0, 0, 3, 6, 10, 15};
        for (int v = 3; v <= 6; v++) {
            begin(v, 1, 4, BAD);
            begin(v, 2, 1, pairs[v]);
            // All but one of the points, which is a design of v blocks for lambda v - 2.
            begin(v, v - 1, v - 2, v);
            for (int k : new int[] {v, v + 1, 0, -1, -2, LEAST, LEAST + 2, 32 + 2, 256 + 2, 65536 + 2, MOST}) {
                begin(v, k, 1, BAD);
            }
        }
    }

    private static void lambdaIsOneToFour() {
        DUE.about("2: lambda is not 1 .. 4");
        begin(4, 2, 0, BAD);
        begin(4, 2, 1, 6);
        begin(4, 2, 4, 24);
        begin(4, 2, 5, BAD);
        for (int lambda : new int[] {LEAST, LEAST + 1, -4, -1, 6, 12, 32 + 1, 256 + 1, 65536 + 1, MOST - 1, MOST}) {
            begin(4, 2, lambda, BAD);
            begin(6, 5, lambda, BAD);
        }
    }

    private static void badComesBeforeWhatADesignNeeds() {
        DUE.about("2: BAD, also where a design would need a fraction, too few blocks or nothing");
        begin(7, 4, 1, BAD);
        begin(16, 6, 1, BAD);
        begin(6, 6, 4, BAD);
        begin(6, 1, 4, BAD);
        begin(1, 1, 1, BAD);
        begin(3, 0, 1, BAD);
    }

    private static void answerForAllSmallNumbers() {
        DUE.about("2: what a design needs");
        for (int v = -2; v <= 9; v++) {
            for (int k = -2; k <= 9; k++) {
                for (int lambda = -2; lambda <= 7; lambda++) {
                    begin(v, k, lambda, dueOfBegin(v, k, lambda));
                }
            }
        }
    }

    private static void answerForFarNumbers() {
        DUE.about("2: far numbers");
        for (int far : Outside.of(7)) {
            for (int other = -1; other <= 7; other++) {
                begin(far, other, 2, BAD);
                begin(other, far, 2, BAD);
                begin(other, 3, far, BAD);
            }
            begin(far, far, far, BAD);
            begin(far, far - 1, 1, BAD);
            begin(far, 2, far, BAD);
            begin(5, far, far, BAD);
        }
    }

    private static int dueOfBegin(int v, int k, int lambda) {
        if (v < 3 || v > 6 || k < 2 || k >= v || lambda < 1 || lambda > 4) {
            return BAD;
        }
        // A design has lambda * v * (v - 1) pairs in all, k * (k - 1) of them in a block.
        int pairs = lambda * v * (v - 1);
        boolean wholeAtPoint = lambda * (v - 1) % (k - 1) == 0;
        boolean wholeInAll = pairs % (k * (k - 1)) == 0;
        if (!wholeAtPoint || !wholeInAll) {
            return FRACTION;
        }
        int blocks = pairs / (k * (k - 1));
        return blocks < v ? PackingCensus.FISHER : blocks;
    }

    /** The document names it, but with so few points no numbers lead to it. */
    private static void fisherIsOutOfReach() {
        DUE.about("2: FISHER");
        for (int v = 3; v <= 6; v++) {
            for (int k = 2; k < v; k++) {
                for (int lambda = 1; lambda <= 4; lambda++) {
                    int answer = new PackingCensus().begin(v, k, lambda);
                    DUE.is("fewer blocks than points", answer == FRACTION || answer >= v, true);
                }
            }
        }
    }

    private static void fractionBeginsACensus() {
        DUE.about("2: begun also when the answer is FRACTION");
        int[][] numbers = {{4, 3, 1}, {4, 3, 3}, {5, 3, 1}, {5, 3, 4}, {5, 4, 4}, {6, 3, 1}, {6, 3, 3}, {6, 4, 4}, {6, 5, 3}};
        for (int[] n : numbers) {
            beginsWithFraction(new PackingCensus(), n[0], n[1], n[2]);
            beginsWithFraction(Made.put(Made.census(6, 2, 1, 5), 3, 5), n[0], n[1], n[2]);
            beginsWithFraction(Made.census(4, 2, 4, 9), n[0], n[1], n[2]);
        }
    }

    private static void beginsWithFraction(PackingCensus x, int v, int k, int lambda) {
        DUE.is("begin(" + v + ", " + k + ", " + lambda + ")", x.begin(v, k, lambda), FRACTION);
        DUE.is("level()", x.level(), 0);
        DUE.is("entries()", x.entries(), 1);
        DUE.is("hand(0)", x.hand(0), NONE);
        DUE.is("order(0)", x.order(0), renamings(v));
        DUE.is("put of a block", x.put((1 << k) - 1), 1);
        DUE.is("find() at level 0", x.find(), NONE);
        DUE.is("grow()", x.grow(), 1);
        DUE.is("find() at level 1", x.find(), 0);
        DUE.is("designs()", x.designs(), 0);
    }

    private static int renamings(int v) {
        int product = 1;
        for (int n = 2; n <= v; n++) {
            product *= n;
        }
        return product;
    }

    private static void beginComesInsteadOfTheOneBefore() {
        DUE.about("2: instead of the one before, at level 0, with an empty hand");
        PackingCensus x = Made.put(Made.census(6, 2, 1, 7), 3, 48, 33);
        DUE.is("symmetries()", x.symmetries(), 4);
        DUE.is("begin(3, 2, 2)", x.begin(3, 2, 2), 6);
        DUE.is("level()", x.level(), 0);
        DUE.is("entries()", x.entries(), 1);
        DUE.is("order(1)", x.order(1), NONE);
        DUE.is("labelled()", x.labelled(), 1);
        DUE.handIs(x);
        DUE.formIs(x);
        DUE.is("symmetries()", x.symmetries(), 6);
        DUE.is("find()", x.find(), 0);
        DUE.is("put(48), a block of the one before", x.put(48), BAD);
        DUE.is("put(9), a block of the one before", x.put(9), BAD);
        DUE.is("put(6)", x.put(6), 1);
        DUE.is("swap(0, 3)", x.swap(0, 3), false);
        DUE.is("orbit(0, 3)", x.orbit(0, 3), NONE);
        DUE.is("grow()", x.grow(), 1);
        DUE.is("grow(), a block twice", x.grow(), 2);
    }

    private static void levelZeroIsTheSameAfterAnyLevel() {
        DUE.about("2: level 0 after another census at some level");
        for (int level = 0; level <= 10; level++) {
            PackingCensus x = Made.census(6, 2, 1, level);
            x.begin(6, 3, 2);
            DUE.is("order(0)", x.order(0), 720);
            for (int p = 0; p < 6; p++) {
                DUE.is("orbit(0, " + p + ")", x.orbit(0, p), 0);
                DUE.is("together(0, " + p + ", 0)", x.together(0, p, 0), 0);
            }
            DUE.is("grow()", x.grow(), 1);
            DUE.is("orbit(0, 5) at level 1", x.orbit(0, 5), 3);
        }
    }

    private static void beginAfterFullGrowsAgain() {
        DUE.about("2: a new census after FULL");
        PackingCensus tooLong = Made.census(4, 2, 4, 8);
        DUE.is("grow()", tooLong.grow(), FULL);
        tooLong.begin(4, 2, 4);
        int[] sizes = {1, 3, 6, 11, 17, 29, 39, 55, FULL};
        for (int size : sizes) {
            DUE.is("grow()", tooLong.grow(), size);
        }
        PackingCensus atTen = Made.census(3, 2, 1, 10);
        DUE.is("grow()", atTen.grow(), FULL);
        atTen.begin(3, 2, 1);
        DUE.is("grow() after a new begin", atTen.grow(), 1);
        DUE.is("level() then", atTen.level(), 1);
    }

    private static void beginOfTheSameNumbersStartsAnew() {
        DUE.about("2: the same numbers again");
        PackingCensus x = Made.put(Made.census(5, 3, 3, 4), 7, 7);
        DUE.is("begin(5, 3, 3)", x.begin(5, 3, 3), 10);
        DUE.is("level()", x.level(), 0);
        DUE.is("entries()", x.entries(), 1);
        DUE.handIs(x);
        DUE.is("find()", x.find(), 0);
    }

    private static void growWithoutCensusIsNone() {
        DUE.about("3: no census");
        PackingCensus x = new PackingCensus();
        for (int n = 0; n < 12; n++) {
            DUE.is("grow()", x.grow(), NONE);
        }
        DUE.is("level()", x.level(), NONE);
        DUE.is("entries()", x.entries(), 0);
        DUE.is("begin(3, 2, 1)", x.begin(3, 2, 1), 3);
        DUE.is("level() after refused grow calls", x.level(), 0);
        DUE.is("grow() after a refused begin", Made.refusedBegin(new PackingCensus()).grow(), NONE);
    }

    private static void growToAListWithoutEntries() {
        DUE.about("3: perhaps none");
        int[][] firstEmpty = {{4, 3, 1, 2}, {6, 5, 1, 2}, {5, 3, 1, 3}, {3, 2, 1, 4}, {3, 2, 3, 10}, {6, 4, 4, 10}};
        for (int[] n : firstEmpty) {
            PackingCensus x = Made.census(n[0], n[1], n[2], n[3] - 1);
            DUE.is("entries() one level before", x.entries() > 0, true);
            for (int level = n[3]; level <= 10; level++) {
                DUE.is("grow()", x.grow(), 0);
                DUE.is("level()", x.level(), level);
                DUE.is("entries()", x.entries(), 0);
                DUE.is("order(0)", x.order(0), NONE);
            }
        }
    }

    private static void growIsFullAtLevelTen() {
        DUE.about("3: FULL when the level is 10");
        int[][] last = {{6, 2, 1, 15}, {5, 2, 1, 1}, {6, 3, 2, 1}, {3, 2, 4, 2}, {4, 2, 3, 33}};
        for (int[] n : last) {
            PackingCensus x = Made.census(n[0], n[1], n[2], 9);
            DUE.is("grow() at level 9", x.grow(), n[3]);
            DUE.is("level()", x.level(), 10);
            for (int again = 0; again < 3; again++) {
                DUE.is("grow() at level 10", x.grow(), FULL);
                DUE.is("level() after the refusal", x.level(), 10);
                DUE.is("entries() after the refusal", x.entries(), n[3]);
            }
        }
    }

    private static void growIsFullAtLevelTenWithoutEntries() {
        DUE.about("3: FULL when the level is 10, of a list without entries");
        PackingCensus x = Made.census(4, 3, 1, 10);
        for (int again = 0; again < 3; again++) {
            DUE.is("grow()", x.grow(), FULL);
            DUE.is("level()", x.level(), 10);
            DUE.is("entries()", x.entries(), 0);
        }
    }

    private static void growIsFullBeyondSixtyEntries() {
        DUE.about("3: FULL when that list would have more than 60 entries");
        // v, k, lambda, the last level and its number of entries; the list behind it is too long.
        int[][] ends = {
            {5, 2, 2, 6, 43}, {5, 2, 3, 5, 32}, {5, 2, 4, 5, 34}, {4, 2, 4, 8, 55}, {5, 3, 4, 6, 54},
            {6, 2, 2, 5, 40}, {6, 2, 3, 5, 49}, {6, 2, 4, 5, 51}, {6, 3, 3, 4, 35}, {6, 3, 4, 4, 40}
        };
        for (int[] n : ends) {
            PackingCensus x = Made.census(n[0], n[1], n[2], n[3]);
            for (int again = 0; again < 3; again++) {
                DUE.is("level()", x.level(), n[3]);
                DUE.is("entries()", x.entries(), n[4]);
                DUE.is("block of the last entry", x.block(n[4] - 1, n[3] - 1) > 0, true);
                DUE.is("grow()", x.grow(), FULL);
            }
        }
    }

    private static void growTakesFiftyFiveEntries() {
        DUE.about("3: a long list that is not too long");
        DUE.is("grow() to 55", Made.census(4, 2, 4, 7).grow(), 55);
        DUE.is("grow() to 54", Made.census(5, 3, 4, 5).grow(), 54);
        DUE.is("grow() to 53", Made.census(6, 4, 4, 5).grow(), 53);
        DUE.is("grow() after 53", Made.census(6, 4, 4, 6).grow(), 38);
    }

    private static void noCensusGoesBeyondTheLimits() {
        DUE.about("terms: at most 60 entries, no level above 10");
        for (int v = 3; v <= 6; v++) {
            for (int k = 2; k < v; k++) {
                for (int lambda = 1; lambda <= 4; lambda++) {
                    PackingCensus x = Made.census(v, k, lambda, 20);
                    DUE.is("grow() at last", x.grow(), FULL);
                    DUE.is("level() up to 10", x.level() <= 10, true);
                    DUE.is("entries() up to 60", x.entries() <= 60, true);
                    DUE.is("order(60)", x.order(60), NONE);
                }
            }
        }
    }

    private static void levelWithoutCensus() {
        DUE.about("4: no census");
        DUE.is("level()", new PackingCensus().level(), NONE);
        DUE.is("level() after a refused begin", Made.refusedBegin(new PackingCensus()).level(), NONE);
        PackingCensus x = new PackingCensus();
        x.grow();
        DUE.is("level() after a refused grow", x.level(), NONE);
    }

    private static void levelAtItsEnds() {
        DUE.about("4: the first and the last level");
        PackingCensus x = Made.census(6, 2, 1, 0);
        for (int n = 0; n <= 10; n++) {
            DUE.is("level()", x.level(), n);
            x.grow();
        }
        DUE.is("level()", x.level(), 10);
        DUE.is("level() after a refused begin", Made.refusedBegin(x).level(), 10);
        x.begin(6, 2, 1);
        DUE.is("level() after begin", x.level(), 0);
    }

    private static void entriesWithoutCensus() {
        DUE.about("5: no census");
        DUE.is("entries()", new PackingCensus().entries(), 0);
        DUE.is("entries() after a refused begin", Made.refusedBegin(new PackingCensus()).entries(), 0);
        PackingCensus x = new PackingCensus();
        x.grow();
        DUE.is("entries() after a refused grow", x.entries(), 0);
    }

    private static void entriesAtTheirEnds() {
        DUE.about("5: one, none, many");
        DUE.is("entries() at level 0", Made.census(6, 3, 2, 0).entries(), 1);
        DUE.is("entries() of an empty list", Made.census(4, 3, 1, 2).entries(), 0);
        DUE.is("entries() of the longest list", Made.census(4, 2, 4, 8).entries(), 55);
        DUE.is("entries() after FULL", Made.census(4, 2, 4, 9).entries(), 55);
        DUE.is("entries() after a refused begin", Made.refusedBegin(Made.census(4, 2, 4, 8)).entries(), 55);
    }

    private static void levelZeroHasTheRowWithoutMasks() {
        DUE.about("terms: level 0, whose one entry is the row without masks");
        for (int v = 3; v <= 6; v++) {
            PackingCensus x = Made.census(v, v - 1, 1, 0);
            DUE.is("entries()", x.entries(), 1);
            DUE.entryIs(x, 0);
            DUE.is("block(0, 9)", x.block(0, 9), NONE);
            DUE.is("order(0)", x.order(0), renamings(v));
            DUE.is("order(1)", x.order(1), NONE);
            DUE.is("labelled()", x.labelled(), 1);
            DUE.is("design(0)", x.design(0), false);
            DUE.is("orbit(0, v - 1)", x.orbit(0, v - 1), 0);
            DUE.is("together(0, 0, v - 1)", x.together(0, 0, v - 1), 0);
            DUE.is("together(0, 0, 0)", x.together(0, 0, 0), 0);
            DUE.is("find() of the empty hand", x.find(), 0);
        }
    }

    private static void lambdaTimesIsAPackingAndOnceMoreIsNot() {
        DUE.about("terms: together in at most lambda");
        for (int lambda = 1; lambda <= 4; lambda++) {
            for (int v = 3; v <= 6; v++) {
                PackingCensus x = Made.census(v, v - 1, lambda, lambda);
                int block = (1 << (v - 1)) - 1;
                for (int n = 0; n < lambda; n++) {
                    DUE.is("block(0, " + n + ")", x.block(0, n), block);
                    x.put(block);
                }
                DUE.is("together(0, 0, 1)", x.together(0, 0, 1), lambda);
                DUE.is("find() of lambda times a block", x.find(), 0);
                x.put(block);
                x.grow();
                DUE.is("level()", x.level(), lambda + 1);
                DUE.is("find() of a block once more", x.find(), NONE);
            }
        }
    }
}
