/** Each promise of the document by its number: ordinary inputs, the named edges, wrong inputs. */
public final class PromiseTest {
    private static final int LEAST = Integer.MIN_VALUE;
    private static final int MOST = Integer.MAX_VALUE;
    private static final Due DUE = new Due();

    public static void main(String[] args) {
        promise1NewObject();
        promise2Begin();
        promise2BeginInsteadOfTheOneBefore();
        promise3Grow();
        promise3GrowRefusedChangesNothing();
        promise4Level();
        promise5Entries();
        promise6Block();
        promise7Order();
        promise8Labelled();
        promise9Together();
        promise10Design();
        promise11Designs();
        promise12Orbit();
        promise13Put();
        promise14Drop();
        promise15Swap();
        promise16Copy();
        promise17Hand();
        promise18Formed();
        promise19Symmetries();
        promise20Find();
        manyObjectsAreApart();
        DUE.end();
    }

    private static void promise1NewObject() {
        DUE.about("promise 1");
        PackingCensus x = new PackingCensus();
        for (int again = 0; again < 2; again++) {
            DUE.is("level()", x.level(), PackingCensus.NONE);
            DUE.is("entries()", x.entries(), 0);
            DUE.is("grow()", x.grow(), PackingCensus.NONE);
            DUE.is("block(0, 0)", x.block(0, 0), PackingCensus.NONE);
            DUE.is("order(0)", x.order(0), PackingCensus.NONE);
            DUE.is("labelled()", x.labelled(), 0);
            DUE.is("together(0, 0, 1)", x.together(0, 0, 1), PackingCensus.NONE);
            DUE.is("design(0)", x.design(0), false);
            DUE.is("designs()", x.designs(), 0);
            DUE.is("orbit(0, 0)", x.orbit(0, 0), PackingCensus.NONE);
            DUE.is("put(3)", x.put(3), PackingCensus.BAD);
            DUE.is("put(0)", x.put(0), PackingCensus.BAD);
            DUE.is("drop(0)", x.drop(0), false);
            DUE.is("swap(0, 0)", x.swap(0, 0), false);
            DUE.is("copy(0)", x.copy(0), false);
            DUE.is("hand(0)", x.hand(0), PackingCensus.NONE);
            DUE.is("formed(0)", x.formed(0), PackingCensus.NONE);
            DUE.is("symmetries()", x.symmetries(), PackingCensus.NONE);
            DUE.is("find()", x.find(), PackingCensus.NONE);
            DUE.is("begin(0, 0, 0)", x.begin(0, 0, 0), PackingCensus.BAD);
        }
    }

    private static void promise2Begin() {
        DUE.about("promise 2");
        int[][] bad = {
            {2, 2, 1}, {7, 3, 1}, {3, 1, 1}, {3, 3, 1}, {6, 6, 1}, {6, 1, 1}, {4, 2, 0}, {4, 2, 5}, {4, 0, 1},
            {LEAST, 2, 1}, {MOST, 2, 1}, {6, LEAST, 1}, {6, MOST, 1}, {6, 3, LEAST}, {6, 3, MOST}, {-4, -3, -1}
        };
        for (int[] n : bad) {
            DUE.is("begin" + java.util.Arrays.toString(n), new PackingCensus().begin(n[0], n[1], n[2]), PackingCensus.BAD);
        }
        int[][] blocks = {
            {3, 2, 1, 3}, {3, 2, 4, 12}, {4, 2, 1, 6}, {4, 3, 2, 4}, {4, 3, 4, 8}, {5, 2, 4, 40}, {5, 3, 3, 10},
            {5, 4, 3, 5}, {6, 2, 1, 15}, {6, 2, 4, 60}, {6, 3, 2, 10}, {6, 3, 4, 20}, {6, 5, 4, 6}
        };
        for (int[] n : blocks) {
            DUE.is("begin" + java.util.Arrays.toString(n), new PackingCensus().begin(n[0], n[1], n[2]), n[3]);
        }
        // Not whole at a point, and whole at a point but not in all.
        int[][] fraction = {{4, 3, 1}, {6, 3, 1}, {6, 3, 3}, {6, 4, 1}, {6, 5, 3}, {5, 3, 1}, {5, 3, 2}, {5, 3, 4}, {6, 4, 3}};
        for (int[] n : fraction) {
            PackingCensus x = new PackingCensus();
            DUE.is("begin" + java.util.Arrays.toString(n), x.begin(n[0], n[1], n[2]), PackingCensus.FRACTION);
            DUE.is("level() of a census without designs", x.level(), 0);
            DUE.is("grow() of a census without designs", x.grow(), 1);
        }
        neverFisher();
    }

    /** With these few numbers a design never lacks blocks unless a number is not whole. */
    private static void neverFisher() {
        for (int v = 3; v <= 6; v++) {
            for (int k = 2; k < v; k++) {
                for (int lambda = 1; lambda <= 4; lambda++) {
                    DUE.is("FISHER", new PackingCensus().begin(v, k, lambda) == PackingCensus.FISHER, false);
                }
            }
        }
    }

    private static void promise2BeginInsteadOfTheOneBefore() {
        DUE.about("promise 2, again");
        PackingCensus x = Made.census(4, 2, 1, 2);
        x.put(5);
        DUE.is("begin(4, 4, 1)", x.begin(4, 4, 1), PackingCensus.BAD);
        DUE.is("level() after a refusal", x.level(), 2);
        DUE.is("entries() after a refusal", x.entries(), 2);
        DUE.handIs(x, 5);
        DUE.is("put(6) after a refusal", x.put(6), 2);
        DUE.is("begin(5, 3, 1)", x.begin(5, 3, 1), PackingCensus.FRACTION);
        DUE.is("level()", x.level(), 0);
        DUE.is("entries()", x.entries(), 1);
        DUE.is("order(0)", x.order(0), 120);
        DUE.is("orbit(0, 4)", x.orbit(0, 4), 0);
        DUE.handIs(x);
        DUE.is("symmetries()", x.symmetries(), 120);
        DUE.is("put(5)", x.put(5), PackingCensus.BAD);
        DUE.is("put(28)", x.put(28), 1);
        DUE.is("begin(3, 2, 1)", x.begin(3, 2, 1), 3);
        DUE.is("together(0, 0, 3)", x.together(0, 0, 3), PackingCensus.NONE);
        DUE.is("symmetries() on fewer points", x.symmetries(), 6);
        DUE.is("find() of the empty hand", x.find(), 0);
        x.begin(6, 2, 1);
        DUE.is("symmetries() right after another begin", x.symmetries(), 720);
    }

    private static void promise3Grow() {
        DUE.about("promise 3");
        int[] graphsOnSixPoints = {1, 2, 5, 9, 15, 21, 24, 24, 21, 15};
        PackingCensus x = Made.census(6, 2, 1, 0);
        for (int n = 0; n < graphsOnSixPoints.length; n++) {
            DUE.is("grow() to level " + (n + 1), x.grow(), graphsOnSixPoints[n]);
            DUE.is("level()", x.level(), n + 1);
        }
        DUE.is("grow() at level 10", x.grow(), PackingCensus.FULL);
        PackingCensus none = Made.census(4, 3, 1, 1);
        for (int n = 2; n <= 10; n++) {
            DUE.is("grow() to an empty list", none.grow(), 0);
            DUE.is("level() of an empty list", none.level(), n);
        }
        DUE.is("grow() at level 10 with no entries", none.grow(), PackingCensus.FULL);
        DUE.is("level()", none.level(), 10);
        DUE.is("grow() to 55", Made.census(4, 2, 4, 7).grow(), 55);
        DUE.is("grow() to 54", Made.census(5, 3, 4, 5).grow(), 54);
        DUE.is("grow() to what would be 62", Made.census(5, 2, 2, 6).grow(), PackingCensus.FULL);
        DUE.is("grow() to what would be 65", Made.census(5, 2, 3, 5).grow(), PackingCensus.FULL);
    }

    private static void promise3GrowRefusedChangesNothing() {
        DUE.about("promise 3, refused");
        PackingCensus x = Made.census(6, 3, 4, 4);
        x.copy(7);
        for (int again = 0; again < 3; again++) {
            DUE.is("grow()", x.grow(), PackingCensus.FULL);
            DUE.is("level()", x.level(), 4);
            DUE.is("entries()", x.entries(), 40);
            DUE.is("labelled()", x.labelled(), 8855);
            DUE.entryIs(x, 0, 7, 7, 7, 7);
            DUE.is("find()", x.find(), 7);
        }
        DUE.is("begin(6, 3, 2)", x.begin(6, 3, 2), 10);
        DUE.is("grow() after a new begin", x.grow(), 1);
    }

    private static void promise4Level() {
        DUE.about("promise 4");
        PackingCensus x = new PackingCensus();
        DUE.is("level()", x.level(), PackingCensus.NONE);
        x.begin(3, 3, 1);
        DUE.is("level() after a refused begin", x.level(), PackingCensus.NONE);
        x.begin(6, 2, 1);
        DUE.is("level()", x.level(), 0);
        x.grow();
        x.grow();
        DUE.is("level()", x.level(), 2);
        x.begin(6, 2, 1);
        DUE.is("level()", x.level(), 0);
    }

    private static void promise5Entries() {
        DUE.about("promise 5");
        DUE.is("entries()", new PackingCensus().entries(), 0);
        DUE.is("entries()", Made.census(6, 3, 2, 0).entries(), 1);
        DUE.is("entries()", Made.census(6, 3, 2, 6).entries(), 41);
        DUE.is("entries()", Made.census(4, 2, 1, 7).entries(), 0);
    }

    private static void promise6Block() {
        DUE.about("promise 6");
        DUE.is("block(0, 0) at level 0", Made.census(4, 2, 1, 0).block(0, 0), PackingCensus.NONE);
        PackingCensus x = Made.census(6, 2, 1, 3);
        DUE.entryIs(x, 0, 3, 5, 6);
        DUE.entryIs(x, 1, 3, 5, 9);
        DUE.entryIs(x, 2, 3, 5, 10);
        DUE.entryIs(x, 3, 3, 5, 24);
        DUE.entryIs(x, 4, 3, 12, 48);
        for (int i : new int[] {-1, 5, 59, 60, LEAST, MOST}) {
            DUE.is("block(" + i + ", 0)", x.block(i, 0), PackingCensus.NONE);
        }
        for (int j : new int[] {-1, 3, 10, LEAST, MOST}) {
            DUE.is("block(1, " + j + ")", x.block(1, j), PackingCensus.NONE);
        }
        PackingCensus twice = Made.census(5, 3, 2, 2);
        DUE.entryIs(twice, 0, 7, 7);
        DUE.entryIs(twice, 1, 7, 11);
        DUE.entryIs(twice, 2, 7, 25);
    }

    private static void promise7Order() {
        DUE.about("promise 7");
        PackingCensus x = Made.census(6, 2, 1, 3);
        int[] orders = {36, 12, 4, 4, 48};
        for (int i = 0; i < orders.length; i++) {
            DUE.is("order(" + i + ")", x.order(i), orders[i]);
        }
        for (int i : new int[] {-1, 5, 60, LEAST, MOST}) {
            DUE.is("order(" + i + ")", x.order(i), PackingCensus.NONE);
        }
        DUE.is("order(0) at level 0", Made.census(6, 2, 1, 0).order(0), 720);
        DUE.is("order(0) of twice the same block", Made.census(5, 3, 2, 2).order(0), 12);
        DUE.is("order(0) of the ten blocks", Made.census(6, 3, 2, 10).order(0), 60);
    }

    private static void promise8Labelled() {
        DUE.about("promise 8");
        DUE.is("labelled()", new PackingCensus().labelled(), 0);
        DUE.is("labelled() at level 0", Made.census(5, 3, 1, 0).labelled(), 1);
        DUE.is("labelled() of 10 pairs out of 15", Made.census(6, 2, 1, 10).labelled(), 3003);
        DUE.is("labelled() of 2 pairs, one perhaps twice", Made.census(6, 2, 2, 2).labelled(), 120);
        DUE.is("labelled()", Made.census(6, 3, 2, 10).labelled(), 12);
        DUE.is("labelled() of an empty list", Made.census(4, 3, 1, 2).labelled(), 0);
    }

    private static void promise9Together() {
        DUE.about("promise 9");
        PackingCensus x = Made.census(5, 3, 3, 2);
        int[][] lines = {{2, 2, 1, 1, 0}, {2, 2, 1, 1, 0}, {1, 1, 1, 0, 0}, {1, 1, 0, 1, 0}, {0, 0, 0, 0, 0}};
        for (int p = 0; p < 5; p++) {
            for (int q = 0; q < 5; q++) {
                DUE.is("together(1, " + p + ", " + q + ")", x.together(1, p, q), lines[p][q]);
            }
        }
        DUE.is("together(0, 0, 2) of twice the same block", x.together(0, 0, 2), 2);
        for (int n : new int[] {-1, 5, 31, 32, LEAST, MOST}) {
            DUE.is("together(1, " + n + ", 0)", x.together(1, n, 0), PackingCensus.NONE);
            DUE.is("together(1, 0, " + n + ")", x.together(1, 0, n), PackingCensus.NONE);
            DUE.is("together(1, " + n + ", " + n + ")", x.together(1, n, n), PackingCensus.NONE);
            DUE.is("together(" + n + ", 0, 1)", x.together(n, 0, 1), PackingCensus.NONE);
        }
        DUE.is("together(3, 0, 1)", x.together(3, 0, 1), PackingCensus.NONE);
        DUE.is("together(0, 0, 1) at level 0", Made.census(5, 3, 3, 0).together(0, 0, 1), 0);
    }

    private static void promise10Design() {
        DUE.about("promise 10");
        PackingCensus x = Made.census(4, 3, 2, 4);
        DUE.is("design(0)", x.design(0), true);
        for (int i : new int[] {-1, 1, 60, LEAST, MOST}) {
            DUE.is("design(" + i + ")", x.design(i), false);
        }
        DUE.is("design(0) one block before", Made.census(4, 3, 2, 3).design(0), false);
        DUE.is("design(0) of an empty list", Made.census(4, 3, 2, 5).design(0), false);
        DUE.is("design(0) at level 0", Made.census(4, 3, 2, 0).design(0), false);
        DUE.entryIs(Made.census(4, 3, 4, 4), 4, 7, 11, 13, 14);
        DUE.is("design(4) where every pair lies in equally many, but fewer than lambda", Made.census(4, 3, 4, 4).design(4), false);
        DUE.is("design(0) of all pairs", Made.census(4, 2, 1, 6).design(0), true);
    }

    private static void promise11Designs() {
        DUE.about("promise 11");
        DUE.is("designs()", new PackingCensus().designs(), 0);
        DUE.is("designs() at level 0", Made.census(4, 3, 2, 0).designs(), 0);
        DUE.is("designs() with too few blocks", Made.census(6, 3, 2, 9).designs(), 0);
        DUE.is("designs()", Made.census(6, 3, 2, 10).designs(), 1);
        DUE.is("designs()", Made.census(5, 3, 3, 10).designs(), 1);
        DUE.is("designs() of an empty list", Made.census(4, 3, 2, 5).designs(), 0);
    }

    private static void promise12Orbit() {
        DUE.about("promise 12");
        PackingCensus x = Made.census(6, 2, 1, 3);
        int[][] orbits = {{0, 0, 0, 3, 3, 3}, {0, 1, 1, 1, 4, 4}, {0, 0, 2, 2, 4, 4}, {0, 1, 1, 3, 3, 5}, {0, 0, 0, 0, 0, 0}};
        for (int i = 0; i < orbits.length; i++) {
            for (int p = 0; p < 6; p++) {
                DUE.is("orbit(" + i + ", " + p + ")", x.orbit(i, p), orbits[i][p]);
            }
        }
        for (int n : new int[] {-1, 6, 60, LEAST, MOST}) {
            DUE.is("orbit(0, " + n + ")", x.orbit(0, n), PackingCensus.NONE);
            DUE.is("orbit(" + n + ", 0)", x.orbit(n, 0), PackingCensus.NONE);
        }
        DUE.is("orbit(0, 2) at level 0", Made.census(3, 2, 1, 0).orbit(0, 2), 0);
        DUE.is("orbit(0, 3) at level 0 of 3 points", Made.census(3, 2, 1, 0).orbit(0, 3), PackingCensus.NONE);
    }

    private static void promise13Put() {
        DUE.about("promise 13");
        PackingCensus x = Made.census(4, 2, 1, 0);
        for (int mask : new int[] {0, 1, 7, 15, 17, 24, 48, 3 << 30, -1, LEAST, LEAST + 1, MOST}) {
            DUE.is("put(" + mask + ")", x.put(mask), PackingCensus.BAD);
        }
        DUE.handIs(x);
        int[] masks = {12, 3, 3, 5, 9, 6, 10, 12, 3, 3};
        for (int n = 0; n < masks.length; n++) {
            DUE.is("put(" + masks[n] + ")", x.put(masks[n]), n + 1);
        }
        DUE.is("put(3) as the eleventh", x.put(3), PackingCensus.FULL);
        DUE.is("put(7) as the eleventh", x.put(7), PackingCensus.BAD);
        DUE.handIs(x, masks);
        x.drop(0);
        DUE.is("put(5) after a drop", x.put(5), 10);
        DUE.handIs(x, 3, 3, 5, 9, 6, 10, 12, 3, 3, 5);
    }

    private static void promise14Drop() {
        DUE.about("promise 14");
        PackingCensus x = Made.withHand(4, 2, 1, 3, 5, 9, 6);
        for (int j : new int[] {-1, 4, 10, LEAST, MOST}) {
            DUE.is("drop(" + j + ")", x.drop(j), false);
        }
        DUE.handIs(x, 3, 5, 9, 6);
        DUE.is("drop(1)", x.drop(1), true);
        DUE.handIs(x, 3, 9, 6);
        DUE.is("drop(2)", x.drop(2), true);
        DUE.handIs(x, 3, 9);
        DUE.is("drop(0)", x.drop(0), true);
        DUE.handIs(x, 9);
        DUE.formIs(x, 3);
        DUE.is("drop(0)", x.drop(0), true);
        DUE.handIs(x);
        DUE.formIs(x);
        DUE.is("drop(0) of none", x.drop(0), false);
    }

    private static void promise15Swap() {
        DUE.about("promise 15");
        PackingCensus x = Made.withHand(5, 3, 1, 7, 25, 28, 7);
        DUE.is("swap(0, 4)", x.swap(0, 4), true);
        DUE.handIs(x, 22, 25, 13, 22);
        DUE.is("swap(4, 0)", x.swap(4, 0), true);
        DUE.handIs(x, 7, 25, 28, 7);
        DUE.is("swap(3, 3)", x.swap(3, 3), true);
        DUE.handIs(x, 7, 25, 28, 7);
        for (int n : new int[] {-1, 5, 32, 33, LEAST, MOST}) {
            DUE.is("swap(0, " + n + ")", x.swap(0, n), false);
            DUE.is("swap(" + n + ", 0)", x.swap(n, 0), false);
            DUE.is("swap(" + n + ", " + n + ")", x.swap(n, n), false);
        }
        DUE.handIs(x, 7, 25, 28, 7);
        DUE.is("swap(0, 1) of an empty hand", Made.census(3, 2, 1, 0).swap(0, 1), true);
        DUE.is("swap(0, 3) on 3 points", Made.census(3, 2, 1, 0).swap(0, 3), false);
        DUE.is("swap(0, 1) without a census", new PackingCensus().swap(0, 1), false);
    }

    private static void promise16Copy() {
        DUE.about("promise 16");
        PackingCensus x = Made.census(6, 2, 1, 3);
        x.put(48);
        for (int i : new int[] {-1, 5, 60, LEAST, MOST}) {
            DUE.is("copy(" + i + ")", x.copy(i), false);
        }
        DUE.handIs(x, 48);
        DUE.is("copy(4)", x.copy(4), true);
        DUE.handIs(x, 3, 12, 48);
        DUE.is("copy(2)", x.copy(2), true);
        DUE.handIs(x, 3, 5, 10);
        x.drop(0);
        DUE.entryIs(x, 2, 3, 5, 10);
        DUE.is("copy(0) of an empty list", Made.census(4, 3, 1, 2).copy(0), false);
        PackingCensus first = Made.withHand(6, 2, 1, 3, 5);
        DUE.is("copy(0) at level 0", first.copy(0), true);
        DUE.handIs(first);
        PackingCensus last = Made.census(6, 3, 2, 10);
        DUE.is("copy(0) at level 10", last.copy(0), true);
        DUE.is("put(7) behind ten", last.put(7), PackingCensus.FULL);
        DUE.is("hand(9)", last.hand(9), 50);
    }

    private static void promise17Hand() {
        DUE.about("promise 17");
        PackingCensus x = Made.withHand(6, 5, 1, 62, 31, 62);
        DUE.handIs(x, 62, 31, 62);
        for (int j : new int[] {-1, 3, 10, LEAST, MOST}) {
            DUE.is("hand(" + j + ")", x.hand(j), PackingCensus.NONE);
        }
        x.grow();
        DUE.handIs(x, 62, 31, 62);
        DUE.is("hand(0)", new PackingCensus().hand(0), PackingCensus.NONE);
    }

    private static void promise18Formed() {
        DUE.about("promise 18");
        DUE.formIs(Made.census(6, 3, 1, 0));
        PackingCensus x = Made.withHand(6, 2, 1, 48, 3, 40);
        DUE.formIs(x, 3, 5, 24);
        DUE.handIs(x, 48, 3, 40);
        for (int j : new int[] {-1, 3, 10, LEAST, MOST}) {
            DUE.is("formed(" + j + ")", x.formed(j), PackingCensus.NONE);
        }
        x.put(48);
        DUE.formIs(x, 3, 3, 5, 24);
        x.swap(0, 5);
        DUE.formIs(x, 3, 3, 5, 24);
        x.drop(1);
        DUE.formIs(x, 3, 3, 5);
        DUE.formIs(Made.withHand(3, 2, 1, 6, 6, 6, 6, 6, 6, 6, 6, 6, 5), 3, 3, 3, 3, 3, 3, 3, 3, 3, 5);
        DUE.formIs(Made.withHand(5, 3, 1, 28, 25, 7, 7, 11), 7, 7, 11, 25, 28);
    }

    private static void promise19Symmetries() {
        DUE.about("promise 19");
        DUE.is("symmetries()", new PackingCensus().symmetries(), PackingCensus.NONE);
        DUE.is("symmetries() of an empty hand", Made.census(6, 4, 1, 0).symmetries(), 720);
        PackingCensus x = Made.withHand(6, 2, 1, 48, 3, 40);
        DUE.is("symmetries()", x.symmetries(), 4);
        x.drop(1);
        DUE.is("symmetries() after a drop", x.symmetries(), 12);
        x.put(24);
        DUE.is("symmetries() after a put", x.symmetries(), 36);
        x.put(24);
        DUE.is("symmetries() with a block twice", x.symmetries(), 12);
        x.swap(3, 0);
        DUE.is("symmetries() after a swap", x.symmetries(), 12);
        x.grow();
        x.copy(0);
        DUE.is("symmetries() after a copy", x.symmetries(), 48);
    }

    private static void promise20Find() {
        DUE.about("promise 20");
        DUE.is("find()", new PackingCensus().find(), PackingCensus.NONE);
        PackingCensus x = Made.census(6, 2, 1, 0);
        DUE.is("find() of an empty hand at level 0", x.find(), 0);
        x.put(48);
        DUE.is("find() of one block at level 0", x.find(), PackingCensus.NONE);
        x.grow();
        DUE.is("find() of one block at level 1", x.find(), 0);
        x.drop(0);
        DUE.is("find() of an empty hand at level 1", x.find(), PackingCensus.NONE);
        x.grow();
        x.grow();
        x.put(40);
        x.put(3);
        x.put(48);
        DUE.is("find()", x.find(), 3);
        x.drop(2);
        x.put(40);
        DUE.is("find() of no packing", x.find(), PackingCensus.NONE);
        x.drop(2);
        x.put(20);
        DUE.is("find() of three blocks apart", x.find(), 4);
        x.put(33);
        DUE.is("find() of one block too many", x.find(), PackingCensus.NONE);
        x.grow();
        DUE.is("find() at its level", x.entries() > 0 && x.find() >= 0, true);
        PackingCensus none = Made.withHand(4, 3, 1, 7, 11);
        none.grow();
        none.grow();
        DUE.is("find() in an empty list", none.find(), PackingCensus.NONE);
    }

    private static void manyObjectsAreApart() {
        DUE.about("two objects");
        PackingCensus x = Made.census(4, 2, 1, 2);
        PackingCensus y = Made.census(5, 3, 3, 3);
        x.put(3);
        DUE.is("entries() of the one", x.entries(), 2);
        DUE.is("entries() of the other", y.entries(), 7);
        DUE.handIs(x, 3);
        DUE.handIs(y);
    }
}
