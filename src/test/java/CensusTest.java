/** Every census, level by level to the end, with every answer about every entry, held against PlainCensus. */
public final class CensusTest {
    private static final Due DUE = new Due();

    public static void main(String[] args) {
        for (int v = 3; v <= 6; v++) {
            for (int k = 2; k < v; k++) {
                for (int lambda = 1; lambda <= 4; lambda++) {
                    wholeCensus(v, k, lambda);
                }
            }
        }
        DUE.end();
    }

    private static void wholeCensus(int v, int k, int lambda) {
        PackingCensus x = new PackingCensus();
        PlainCensus plain = new PlainCensus();
        DUE.about("begin(" + v + ", " + k + ", " + lambda + ")");
        DUE.is("begin", x.begin(v, k, lambda), plain.begin(v, k, lambda));
        lookAtList(x, plain);
        lookAtEntries(plain, v, k, lambda);
        for (int n = 1; n <= 11; n++) {
            DUE.about("census " + v + " " + k + " " + lambda + ", grow call " + n);
            int want = plain.grow();
            DUE.is("grow()", x.grow(), want);
            lookAtList(x, plain);
            if (want == PackingCensus.FULL) {
                DUE.is("grow() again", x.grow(), plain.grow());
                lookAtList(x, plain);
                return;
            }
            lookAtEntries(plain, v, k, lambda);
        }
    }

    private static void lookAtList(PackingCensus x, PlainCensus plain) {
        DUE.is("level()", x.level(), plain.level());
        DUE.is("entries()", x.entries(), plain.entries());
        DUE.is("labelled()", x.labelled(), plain.labelled());
        DUE.is("designs()", x.designs(), plain.designs());
    }

    /** A new object for each entry: nothing is promised after 512 calls. */
    private static void lookAtEntries(PlainCensus plain, int v, int k, int lambda) {
        for (int i = -1; i <= plain.entries(); i++) {
            lookAtEntry(Made.census(v, k, lambda, plain.level()), plain, v, i);
        }
    }

    private static void lookAtEntry(PackingCensus x, PlainCensus plain, int v, int i) {
        DUE.is("order(" + i + ")", x.order(i), plain.order(i));
        DUE.is("design(" + i + ")", x.design(i), plain.design(i));
        for (int j = -1; j <= plain.level(); j++) {
            DUE.is("block(" + i + ", " + j + ")", x.block(i, j), plain.block(i, j));
        }
        for (int p = -1; p <= v; p++) {
            DUE.is("orbit(" + i + ", " + p + ")", x.orbit(i, p), plain.orbit(i, p));
            for (int q = -1; q <= v; q++) {
                DUE.is("together(" + i + ", " + p + ", " + q + ")", x.together(i, p, q), plain.together(i, p, q));
            }
        }
        boolean copied = plain.copy(i);
        DUE.is("copy(" + i + ")", x.copy(i), copied);
        if (copied) {
            DUE.is("find() after copy(" + i + ")", x.find(), plain.find());
        }
    }
}
