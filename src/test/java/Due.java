/** Counts and prints the answers that are not as due. */
final class Due {
    private int wrong = 0;
    private int looked = 0;
    private String about = "";

    void about(String text) {
        about = text;
    }

    void is(String call, Object got, Object want) {
        looked++;
        if (!want.equals(got)) {
            wrong++;
            System.out.println(about + ": " + call + " answered " + got + ", due is " + want);
        }
    }

    void handIs(PackingCensus x, int... masks) {
        for (int j = 0; j < masks.length; j++) {
            is("hand(" + j + ")", x.hand(j), masks[j]);
        }
        is("hand(" + masks.length + ")", x.hand(masks.length), PackingCensus.NONE);
    }

    void formIs(PackingCensus x, int... masks) {
        for (int j = 0; j < masks.length; j++) {
            is("formed(" + j + ")", x.formed(j), masks[j]);
        }
        is("formed(" + masks.length + ")", x.formed(masks.length), PackingCensus.NONE);
    }

    void entryIs(PackingCensus x, int i, int... masks) {
        for (int j = 0; j < masks.length; j++) {
            is("block(" + i + ", " + j + ")", x.block(i, j), masks[j]);
        }
        is("block(" + i + ", " + masks.length + ")", x.block(i, masks.length), PackingCensus.NONE);
    }

    int wrong() {
        return wrong;
    }

    void end() {
        System.out.println(looked + " answers, " + wrong + " not as due");
        if (wrong != 0 || looked == 0) {
            System.exit(1);
        }
    }
}
