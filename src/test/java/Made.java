/** Objects in some state, each made by a few calls. */
final class Made {
    private Made() {
    }

    static PackingCensus census(int v, int k, int lambda, int level) {
        PackingCensus x = new PackingCensus();
        x.begin(v, k, lambda);
        for (int n = 0; n < level; n++) {
            x.grow();
        }
        return x;
    }

    static PackingCensus withHand(int v, int k, int lambda, int... masks) {
        return put(census(v, k, lambda, 0), masks);
    }

    static PackingCensus put(PackingCensus x, int... masks) {
        for (int mask : masks) {
            x.put(mask);
        }
        return x;
    }

    /** The object after begin calls that must all be refused. */
    static PackingCensus refusedBegin(PackingCensus x) {
        x.begin(2, 2, 1);
        x.begin(7, 3, 2);
        x.begin(6, 3, 5);
        return x;
    }
}
