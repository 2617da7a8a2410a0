/** The calls that README.md shows answer what it says. */
public final class ReadmeTest {
    private static final Due DUE = new Due();

    public static void main(String[] args) {
        DUE.about("README.md");
        PackingCensus census = new PackingCensus();
        DUE.is("begin(6, 3, 2)", census.begin(6, 3, 2), 10);
        DUE.is("grow()", census.grow(), 1);
        DUE.is("grow()", census.grow(), 4);
        DUE.is("block(1, 1)", census.block(1, 1), 11);
        DUE.is("order(1)", census.order(1), 8);
        DUE.is("labelled()", census.labelled(), 210);
        DUE.is("together(1, 0, 1)", census.together(1, 0, 1), 2);
        DUE.is("orbit(1, 3)", census.orbit(1, 3), 2);
        DUE.is("put(56)", census.put(56), 1);
        DUE.is("put(52)", census.put(52), 2);
        DUE.is("formed(1)", census.formed(1), 11);
        DUE.is("find()", census.find(), 1);
        DUE.is("put(3)", census.put(3), PackingCensus.BAD);
        growToTheDesign(census);
        DUE.end();
    }

    private static void growToTheDesign(PackingCensus census) {
        while (census.level() < 10 && census.grow() >= 0) {
            DUE.is("hand(0) while growing", census.hand(0), 56);
        }
        DUE.is("designs()", census.designs(), 1);
        DUE.is("order(0)", census.order(0), 60);
    }
}
