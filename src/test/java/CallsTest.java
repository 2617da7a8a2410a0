import java.util.function.Consumer;

/** "An object is used for at most 512 calls": the last of them is answered as if it were the first. */
public final class CallsTest {
    private static final int CALLS = 512;
    private static final int NONE = PackingCensus.NONE;
    private static final int BAD = PackingCensus.BAD;
    private static final int FULL = PackingCensus.FULL;
    private static final Due DUE = new Due();

    public static void main(String[] args) {
        manyQuestionsWithoutCensus();
        manyBegins();
        manyRefusedBegins();
        manyGrows();
        manyGrowsOfATooLongList();
        manyCensuses();
        manyPuts();
        manyRefusedPuts();
        manyDrops();
        manySwaps();
        manyCopies();
        manyForms();
        DUE.end();
    }

    private static PackingCensus after(PackingCensus x, int calls, Consumer<PackingCensus> call) {
        for (int n = 0; n < calls; n++) {
            call.accept(x);
        }
        return x;
    }

    private static void manyQuestionsWithoutCensus() {
        DUE.about("512 calls without a census");
        PackingCensus x = after(new PackingCensus(), CALLS / 4, y -> {
            y.grow();
            y.put(3);
            y.drop(0);
        });
        after(x, CALLS / 4 - 1, PackingCensus::find);
        DUE.is("level()", x.level(), NONE);
    }

    private static void manyBegins() {
        DUE.about("512 calls of begin");
        PackingCensus x = after(new PackingCensus(), CALLS / 2 - 1, y -> {
            y.begin(6, 2, 4);
            y.begin(3, 2, 1);
        });
        x.begin(6, 3, 2);
        DUE.is("begin(5, 4, 3)", x.begin(5, 4, 3), 5);
    }

    private static void manyRefusedBegins() {
        DUE.about("calls of begin, refused");
        PackingCensus x = after(Made.census(4, 2, 1, 2), CALLS - 4, y -> y.begin(7, 2, 1));
        DUE.is("level()", x.level(), 2);
    }

    private static void manyGrows() {
        DUE.about("calls of grow at level 10");
        PackingCensus x = after(Made.census(6, 2, 1, 10), CALLS - 14, PackingCensus::grow);
        DUE.is("entries()", x.entries(), 15);
        DUE.is("level()", x.level(), 10);
        DUE.is("grow()", x.grow(), FULL);
    }

    private static void manyGrowsOfATooLongList() {
        DUE.about("calls of grow to a list that is too long");
        PackingCensus x = after(Made.census(6, 3, 4, 4), CALLS - 7, PackingCensus::grow);
        DUE.is("entries()", x.entries(), 40);
        DUE.is("grow()", x.grow(), FULL);
    }

    private static void manyCensuses() {
        DUE.about("censuses one after the other");
        PackingCensus x = after(new PackingCensus(), 50, y -> {
            y.begin(6, 4, 4);
            after(y, 9, PackingCensus::grow);
        });
        x.begin(6, 4, 4);
        int[] sizes = {1, 3, 8, 21, 34, 53, 38, 18, 2, 0, FULL};
        for (int size : sizes) {
            DUE.is("grow()", x.grow(), size);
        }
    }

    private static void manyPuts() {
        DUE.about("put and drop by turns");
        PackingCensus x = after(Made.census(4, 3, 1, 0), (CALLS - 5) / 2, y -> {
            y.put(14);
            y.drop(0);
        });
        DUE.is("put(7)", x.put(7), 1);
        DUE.is("hand(0)", x.hand(0), 7);
        DUE.is("hand(1)", x.hand(1), NONE);
    }

    private static void manyRefusedPuts() {
        DUE.about("put into a full hand");
        PackingCensus x = after(Made.census(4, 3, 1, 0), 10, y -> y.put(14));
        after(x, CALLS - 15, y -> y.put(7));
        DUE.is("put(3)", x.put(3), BAD);
        DUE.is("put(7)", x.put(7), FULL);
        DUE.is("hand(9)", x.hand(9), 14);
    }

    private static void manyDrops() {
        DUE.about("drop from an empty hand");
        PackingCensus x = after(Made.census(4, 3, 1, 0), CALLS - 4, y -> y.drop(0));
        DUE.is("put(7)", x.put(7), 1);
        DUE.is("drop(0)", x.drop(0), true);
    }

    private static void manySwaps() {
        DUE.about("swap again and again");
        PackingCensus x = after(Made.withHand(4, 2, 1, 3, 12, 5), 501, y -> y.swap(0, 3));
        DUE.handIs(x, 10, 5, 12);
    }

    private static void manyCopies() {
        DUE.about("copy again and again");
        PackingCensus x = after(Made.census(6, 2, 1, 3), CALLS / 2 - 8, y -> {
            y.copy(4);
            y.copy(2);
        });
        DUE.handIs(x, 3, 5, 10);
        DUE.is("find()", x.find(), 2);
    }

    private static void manyForms() {
        DUE.about("the form of another hand again and again");
        PackingCensus x = after(Made.withHand(6, 3, 2, 56, 7), 125, y -> {
            y.put(52);
            y.symmetries();
            y.drop(2);
            y.formed(1);
        });
        DUE.formIs(x, 7, 56);
        DUE.is("symmetries()", x.symmetries(), 72);
    }
}
