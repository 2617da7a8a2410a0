/** The sentences of promises 6 to 12 that name a boundary: one test each. */
public final class ListEdgesTest {
    private static final int NONE = PackingCensus.NONE;
    private static final int[] NO_NUMBERS = Outside.of(0);
    private static final Due DUE = new Due();

    public static void main(String[] args) {
        blockWithoutCensus();
        blockOfNoSuchEntry();
        blockAtNoSuchPlace();
        blockAtLevelTen();
        blockOfAListThatWasLonger();
        orderWithoutCensus();
        orderOfNoSuchEntry();
        orderAtItsEnds();
        labelledWithoutCensus();
        labelledAtItsEnds();
        labelledAfterRefusals();
        togetherWithoutCensus();
        togetherOfNoSuchEntry();
        togetherOfNoPoint();
        togetherOfOnePoint();
        togetherAtItsEnds();
        designWithoutCensus();
        designOfNoSuchEntry();
        designIsExactlyLambda();
        designsWithoutCensus();
        designsAtTheirEnds();
        orbitWithoutCensus();
        orbitOfNoSuchEntry();
        orbitOfNoPoint();
        orbitAtItsEnds();
        DUE.end();
    }

    /** Two objects without a census: a new one, and one on which begin was refused. */
    private static PackingCensus[] withoutCensus() {
        return new PackingCensus[] {new PackingCensus(), Made.refusedBegin(new PackingCensus())};
    }

    /** Level 3 of the graphs on six points has the entries 0 .. 4. */
    private static PackingCensus fiveEntries() {
        return Made.census(6, 2, 1, 3);
    }

    private static PackingCensus noEntries() {
        return Made.census(4, 3, 1, 2);
    }

    private static void blockWithoutCensus() {
        DUE.about("6: no census");
        for (PackingCensus x : withoutCensus()) {
            DUE.is("block(0, 0)", x.block(0, 0), NONE);
            for (int n : NO_NUMBERS) {
                DUE.is("block(" + n + ", 0)", x.block(n, 0), NONE);
                DUE.is("block(0, " + n + ")", x.block(0, n), NONE);
                DUE.is("block(" + n + ", " + n + ")", x.block(n, n), NONE);
            }
        }
    }

    private static void blockOfNoSuchEntry() {
        DUE.about("6: no such entry");
        PackingCensus x = fiveEntries();
        DUE.is("block(0, 0)", x.block(0, 0), 3);
        DUE.is("block(4, 0)", x.block(4, 0), 3);
        for (int i : Outside.of(5)) {
            DUE.is("block(" + i + ", 0)", x.block(i, 0), NONE);
            DUE.is("block(" + i + ", 2)", x.block(i, 2), NONE);
            DUE.is("block(" + i + ", " + i + ")", x.block(i, i), NONE);
        }
        for (int i = -1; i <= 1; i++) {
            DUE.is("block(" + i + ", 0) of an empty list", noEntries().block(i, 0), NONE);
        }
    }

    private static void blockAtNoSuchPlace() {
        DUE.about("6: no such place");
        PackingCensus x = fiveEntries();
        DUE.entryIs(x, 0, 3, 5, 6);
        DUE.entryIs(x, 4, 3, 12, 48);
        for (int j : Outside.of(3)) {
            DUE.is("block(0, " + j + ")", x.block(0, j), NONE);
            DUE.is("block(1, " + j + ")", x.block(1, j), NONE);
            DUE.is("block(4, " + j + ")", x.block(4, j), NONE);
        }
        PackingCensus first = Made.census(6, 2, 1, 0);
        for (int j : NO_NUMBERS) {
            DUE.is("block(0, " + j + ") at level 0", first.block(0, j), NONE);
        }
    }

    /** Full rows: a place too many would be in the entry behind, a place too few in the one before. */
    private static void blockAtLevelTen() {
        DUE.about("6: places at level 10");
        PackingCensus x = Made.census(6, 2, 1, 10);
        for (int i = 0; i < 15; i++) {
            DUE.is("block(" + i + ", -1)", x.block(i, -1), NONE);
            DUE.is("block(" + i + ", 0)", x.block(i, 0), 3);
            DUE.is("block(" + i + ", 9) is there", x.block(i, 9) >= x.block(i, 8), true);
            DUE.is("block(" + i + ", 10)", x.block(i, 10), NONE);
            DUE.is("block(" + i + ", 11)", x.block(i, 11), NONE);
        }
        DUE.is("block(15, 0)", x.block(15, 0), NONE);
    }

    private static void blockOfAListThatWasLonger() {
        DUE.about("6, 7, 10, 12: entries that the list no longer has");
        // 24 entries at the levels 7 and 8, then 21, then 15.
        PackingCensus x = Made.census(6, 2, 1, 10);
        DUE.is("order(14)", x.order(14) > 0, true);
        for (int i = 15; i <= 24; i++) {
            DUE.is("block(" + i + ", 0)", x.block(i, 0), NONE);
            DUE.is("order(" + i + ")", x.order(i), NONE);
            DUE.is("design(" + i + ")", x.design(i), false);
            DUE.is("orbit(" + i + ", 0)", x.orbit(i, 0), NONE);
            DUE.is("together(" + i + ", 0, 0)", x.together(i, 0, 0), NONE);
        }
        x.begin(6, 2, 1);
        DUE.is("block(0, 0) after begin", x.block(0, 0), NONE);
        DUE.is("order(1) after begin", x.order(1), NONE);
    }

    private static void orderWithoutCensus() {
        DUE.about("7: no census");
        for (PackingCensus x : withoutCensus()) {
            DUE.is("order(0)", x.order(0), NONE);
            for (int i : NO_NUMBERS) {
                DUE.is("order(" + i + ")", x.order(i), NONE);
            }
        }
    }

    private static void orderOfNoSuchEntry() {
        DUE.about("7: no such entry");
        PackingCensus x = fiveEntries();
        DUE.is("order(0)", x.order(0), 36);
        DUE.is("order(4)", x.order(4), 48);
        for (int i : Outside.of(5)) {
            DUE.is("order(" + i + ")", x.order(i), NONE);
        }
        DUE.is("order(0) of an empty list", noEntries().order(0), NONE);
        PackingCensus longest = Made.census(4, 2, 4, 8);
        DUE.is("order(54)", longest.order(54) > 0, true);
        DUE.is("order(55)", longest.order(55), NONE);
    }

    private static void orderAtItsEnds() {
        DUE.about("7: the least and the greatest order");
        int[] renamings = {6, 24, 120, 720};
        for (int v = 3; v <= 6; v++) {
            DUE.is("order(0) at level 0", Made.census(v, 2, 1, 0).order(0), renamings[v - 3]);
        }
        DUE.is("order(0) of all pairs", Made.census(5, 2, 1, 10).order(0), 120);
        // 3 3 5 on three points: no renaming but the one that moves nothing.
        DUE.entryIs(Made.census(3, 2, 2, 3), 0, 3, 3, 5);
        DUE.is("order(0) of 3 3 5", Made.census(3, 2, 2, 3).order(0), 1);
    }

    private static void labelledWithoutCensus() {
        DUE.about("8: no census");
        for (PackingCensus x : withoutCensus()) {
            DUE.is("labelled()", x.labelled(), 0);
        }
    }

    private static void labelledAtItsEnds() {
        DUE.about("8: one, none, all");
        for (int v = 3; v <= 6; v++) {
            DUE.is("labelled() at level 0", Made.census(v, 2, 4, 0).labelled(), 1);
            DUE.is("labelled() at level 1", Made.census(v, v - 1, 1, 1).labelled(), v);
        }
        DUE.is("labelled() of an empty list", noEntries().labelled(), 0);
        DUE.is("labelled() of an empty list at level 10", Made.census(4, 3, 1, 10).labelled(), 0);
        DUE.is("labelled() of all pairs", Made.census(4, 2, 1, 6).labelled(), 1);
        // Five of 15 pairs, each up to 4 times: all 11628 but the 15 with one five times.
        DUE.is("labelled() of five pairs out of 15", Made.census(6, 2, 4, 5).labelled(), 11613);
    }

    private static void labelledAfterRefusals() {
        DUE.about("8: after refused calls");
        PackingCensus x = Made.refusedBegin(Made.census(6, 2, 4, 5));
        x.grow();
        DUE.is("labelled()", x.labelled(), 11613);
    }

    private static void togetherWithoutCensus() {
        DUE.about("9: no census");
        for (PackingCensus x : withoutCensus()) {
            DUE.is("together(0, 0, 0)", x.together(0, 0, 0), NONE);
            DUE.is("together(0, 0, 1)", x.together(0, 0, 1), NONE);
            DUE.is("together(0, 1, 0)", x.together(0, 1, 0), NONE);
            for (int n : NO_NUMBERS) {
                DUE.is("together(" + n + ", " + n + ", " + n + ")", x.together(n, n, n), NONE);
                DUE.is("together(" + n + ", 0, 0)", x.together(n, 0, 0), NONE);
            }
        }
    }

    private static void togetherOfNoSuchEntry() {
        DUE.about("9: no such entry");
        PackingCensus x = fiveEntries();
        DUE.is("together(0, 0, 1)", x.together(0, 0, 1), 1);
        DUE.is("together(4, 4, 5)", x.together(4, 4, 5), 1);
        for (int i : Outside.of(5)) {
            DUE.is("together(" + i + ", 0, 1)", x.together(i, 0, 1), NONE);
            DUE.is("together(" + i + ", 2, 2)", x.together(i, 2, 2), NONE);
        }
        DUE.is("together(0, 0, 1) of an empty list", noEntries().together(0, 0, 1), NONE);
        DUE.is("together(0, 0, 0) of an empty list", noEntries().together(0, 0, 0), NONE);
    }

    private static void togetherOfNoPoint() {
        DUE.about("9: p or q is no point");
        for (int v = 3; v <= 6; v++) {
            PackingCensus x = Made.census(v, 2, 1, 1);
            DUE.is("together(0, v - 1, 0)", x.together(0, v - 1, 0), 0);
            DUE.is("together(0, 0, v - 1)", x.together(0, 0, v - 1), 0);
            DUE.is("together(0, v - 1, v - 1)", x.together(0, v - 1, v - 1), 0);
            for (int n : Outside.of(v)) {
                DUE.is("together(0, " + n + ", 0)", x.together(0, n, 0), NONE);
                DUE.is("together(0, 0, " + n + ")", x.together(0, 0, n), NONE);
                DUE.is("together(0, " + n + ", " + n + ")", x.together(0, n, n), NONE);
            }
        }
    }

    private static void togetherOfOnePoint() {
        DUE.about("9: p = q");
        PackingCensus x = fiveEntries();
        // Entry 1 is 3 5 9: point 0 with each of 1, 2 and 3.
        int[] blocksAt = {3, 1, 1, 1, 0, 0};
        for (int p = 0; p < 6; p++) {
            DUE.is("together(1, " + p + ", " + p + ")", x.together(1, p, p), blocksAt[p]);
        }
    }

    private static void togetherAtItsEnds() {
        DUE.about("9: none, lambda, all blocks");
        PackingCensus x = Made.census(3, 2, 4, 4);
        DUE.entryIs(x, 0, 3, 3, 3, 3);
        DUE.is("together(0, 0, 1)", x.together(0, 0, 1), 4);
        DUE.is("together(0, 1, 0)", x.together(0, 1, 0), 4);
        DUE.is("together(0, 1, 1)", x.together(0, 1, 1), 4);
        DUE.is("together(0, 2, 2)", x.together(0, 2, 2), 0);
        DUE.is("together(0, 0, 2)", x.together(0, 0, 2), 0);
        PackingCensus ten = Made.census(6, 3, 2, 10);
        DUE.is("together(0, 5, 5)", ten.together(0, 5, 5), 5);
        DUE.is("together(0, 4, 5)", ten.together(0, 4, 5), 2);
    }

    private static void designWithoutCensus() {
        DUE.about("10: no census");
        for (PackingCensus x : withoutCensus()) {
            DUE.is("design(0)", x.design(0), false);
            for (int i : NO_NUMBERS) {
                DUE.is("design(" + i + ")", x.design(i), false);
            }
        }
    }

    private static void designOfNoSuchEntry() {
        DUE.about("10: no such entry");
        PackingCensus x = Made.census(4, 3, 2, 4);
        DUE.is("design(0)", x.design(0), true);
        for (int i : Outside.of(1)) {
            DUE.is("design(" + i + ")", x.design(i), false);
        }
        x.grow();
        DUE.is("design(0) when the list is empty then", x.design(0), false);
        DUE.is("design(0) of an empty list", noEntries().design(0), false);
    }

    private static void designIsExactlyLambda() {
        DUE.about("10: exactly lambda");
        DUE.is("design(0) at level 0", Made.census(3, 2, 1, 0).design(0), false);
        DUE.is("design(0) with a pair too few", Made.census(3, 2, 1, 2).design(0), false);
        DUE.is("design(0)", Made.census(3, 2, 1, 3).design(0), true);
        DUE.is("design(0) with all pairs but one lambda times", Made.census(3, 2, 3, 8).design(0), false);
        DUE.is("design(0) of all pairs lambda times", Made.census(3, 2, 3, 9).design(0), true);
        DUE.is("design(0) of five points", Made.census(5, 4, 3, 5).design(0), true);
        DUE.is("design(0) at level 10", Made.census(5, 2, 1, 10).design(0), true);
        PackingCensus once = Made.census(3, 2, 2, 3);
        DUE.entryIs(once, 1, 3, 5, 6);
        DUE.is("design(1), all pairs once and lambda 2", once.design(1), false);
        PackingCensus onePairLess = Made.census(5, 3, 2, 6);
        DUE.entryIs(onePairLess, 0, 7, 11, 13, 22, 26, 28);
        DUE.is("together(0, 0, 4)", onePairLess.together(0, 0, 4), 0);
        DUE.is("design(0), all pairs twice but 0 and 4", onePairLess.design(0), false);
        DUE.is("designs() then", onePairLess.designs(), 0);
    }

    private static void designsWithoutCensus() {
        DUE.about("11: no census");
        for (PackingCensus x : withoutCensus()) {
            DUE.is("designs()", x.designs(), 0);
        }
    }

    private static void designsAtTheirEnds() {
        DUE.about("11: none, one");
        DUE.is("designs() at level 0", Made.census(3, 2, 1, 0).designs(), 0);
        DUE.is("designs() one block before", Made.census(4, 3, 4, 7).designs(), 0);
        DUE.is("designs()", Made.census(4, 3, 4, 8).designs(), 1);
        DUE.is("designs() of an empty list", Made.census(4, 3, 4, 9).designs(), 0);
        DUE.is("designs() of the longest list", Made.census(4, 2, 4, 8).designs(), 0);
        DUE.is("designs() at level 10", Made.census(5, 2, 1, 10).designs(), 1);
        PackingCensus x = Made.census(4, 3, 4, 8);
        x.begin(4, 3, 4);
        DUE.is("designs() after begin", x.designs(), 0);
    }

    private static void orbitWithoutCensus() {
        DUE.about("12: no census");
        for (PackingCensus x : withoutCensus()) {
            DUE.is("orbit(0, 0)", x.orbit(0, 0), NONE);
            for (int n : NO_NUMBERS) {
                DUE.is("orbit(" + n + ", 0)", x.orbit(n, 0), NONE);
                DUE.is("orbit(0, " + n + ")", x.orbit(0, n), NONE);
                DUE.is("orbit(" + n + ", " + n + ")", x.orbit(n, n), NONE);
            }
        }
    }

    private static void orbitOfNoSuchEntry() {
        DUE.about("12: no such entry");
        PackingCensus x = fiveEntries();
        DUE.is("orbit(0, 5)", x.orbit(0, 5), 3);
        DUE.is("orbit(4, 5)", x.orbit(4, 5), 0);
        for (int i : Outside.of(5)) {
            DUE.is("orbit(" + i + ", 0)", x.orbit(i, 0), NONE);
            DUE.is("orbit(" + i + ", 5)", x.orbit(i, 5), NONE);
        }
        DUE.is("orbit(0, 0) of an empty list", noEntries().orbit(0, 0), NONE);
    }

    private static void orbitOfNoPoint() {
        DUE.about("12: no such point");
        for (int v = 3; v <= 6; v++) {
            PackingCensus x = Made.census(v, 2, 2, 2);
            DUE.is("orbit(0, 0)", x.orbit(0, 0), 0);
            DUE.is("orbit(0, v - 1)", x.orbit(0, v - 1), 2);
            for (int p : Outside.of(v)) {
                DUE.is("orbit(0, " + p + ")", x.orbit(0, p), NONE);
                DUE.is("orbit(1, " + p + ")", x.orbit(1, p), NONE);
            }
        }
    }

    private static void orbitAtItsEnds() {
        DUE.about("12: every point to 0, no point to another");
        for (int p = 0; p < 6; p++) {
            DUE.is("orbit(0, " + p + ") at level 0", Made.census(6, 3, 2, 0).orbit(0, p), 0);
            DUE.is("orbit(0, " + p + ") of the design", Made.census(6, 3, 2, 10).orbit(0, p), 0);
        }
        for (int p = 0; p < 3; p++) {
            DUE.is("orbit(0, " + p + ") of 3 3 5", Made.census(3, 2, 2, 3).orbit(0, p), p);
        }
    }
}
