import java.util.Random;

/** Runs of 512 calls with right and wrong arguments, from fixed seeds, held against PlainCensus. */
public final class RandomRunsTest {
    private static final int RUNS = 300;
    private static final int CALLS = 512;
    private static final int[] ODD_NUMBERS = {-1, -2, 64, 60, 61, 10, 11, 1 << 30, Integer.MAX_VALUE, Integer.MIN_VALUE};

    private final Due due;
    private final Random random;
    private final PackingCensus x = new PackingCensus();
    private final PlainCensus plain = new PlainCensus();

    private RandomRunsTest(Due due, long seed) {
        this.due = due;
        random = new Random(seed);
    }

    public static void main(String[] args) {
        Due due = new Due();
        for (int run = 0; run < RUNS && due.wrong() < 20; run++) {
            RandomRunsTest test = new RandomRunsTest(due, run);
            for (int n = 0; n < CALLS; n++) {
                due.about("run " + run + ", call " + n);
                test.oneCall();
            }
        }
        due.end();
    }

    private int upTo(int most) {
        return random.nextInt(25) == 0 ? ODD_NUMBERS[random.nextInt(ODD_NUMBERS.length)] : random.nextInt(most + 1);
    }

    private int entry() {
        return upTo(random.nextInt(8) == 0 ? 60 : plain.entries());
    }

    private int mask() {
        if (random.nextInt(6) == 0) {
            return upTo(63);
        }
        int mask = random.nextInt(64);
        for (int n = 0; n < 100 && plain.level() >= 0 && !isLikely(mask); n++) {
            mask = random.nextInt(64);
        }
        return mask;
    }

    /** Whether the mask has the size of the blocks of the list, where one tells it. */
    private boolean isLikely(int mask) {
        int other = Math.max(plain.block(0, 0), plain.hand(0));
        return other < 0 || Integer.bitCount(mask) == Integer.bitCount(other);
    }

    private void oneCall() {
        int kind = random.nextInt(100);
        if (kind < 2) {
            callBegin();
        } else if (kind < 45) {
            changeHand(random.nextInt(24));
        } else if (kind < 65) {
            askHand(random.nextInt(4));
        } else if (kind < 71) {
            due.is("grow()", x.grow(), plain.grow());
        } else {
            askList(random.nextInt(9));
        }
    }

    private void callBegin() {
        int v = 3 + random.nextInt(4);
        int k = 2 + random.nextInt(v - 1);
        int lambda = 1 + random.nextInt(4);
        if (random.nextInt(4) == 0) {
            v = upTo(7);
            k = upTo(6);
            lambda = upTo(5);
        }
        due.is("begin(" + v + ", " + k + ", " + lambda + ")", x.begin(v, k, lambda), plain.begin(v, k, lambda));
    }

    private void changeHand(int which) {
        if (which < 12) {
            int mask = mask();
            due.is("put(" + mask + ")", x.put(mask), plain.put(mask));
        } else if (which < 17) {
            int j = upTo(10);
            due.is("drop(" + j + ")", x.drop(j), plain.drop(j));
        } else if (which < 22) {
            int p = upTo(6);
            int q = upTo(6);
            due.is("swap(" + p + ", " + q + ")", x.swap(p, q), plain.swap(p, q));
        } else {
            int i = entry();
            due.is("copy(" + i + ")", x.copy(i), plain.copy(i));
        }
    }

    private void askHand(int which) {
        int j = upTo(10);
        switch (which) {
            case 0 -> due.is("hand(" + j + ")", x.hand(j), plain.hand(j));
            case 1 -> due.is("formed(" + j + ")", x.formed(j), plain.formed(j));
            case 2 -> due.is("symmetries()", x.symmetries(), plain.symmetries());
            default -> due.is("find()", x.find(), plain.find());
        }
    }

    private void askList(int which) {
        int i = entry();
        int p = upTo(6);
        int q = upTo(6);
        int j = upTo(10);
        switch (which) {
            case 0 -> due.is("level()", x.level(), plain.level());
            case 1 -> due.is("entries()", x.entries(), plain.entries());
            case 2 -> due.is("block(" + i + ", " + j + ")", x.block(i, j), plain.block(i, j));
            case 3 -> due.is("order(" + i + ")", x.order(i), plain.order(i));
            case 4 -> due.is("labelled()", x.labelled(), plain.labelled());
            case 5 -> due.is("together(" + i + ", " + p + ", " + q + ")", x.together(i, p, q), plain.together(i, p, q));
            case 6 -> due.is("design(" + i + ")", x.design(i), plain.design(i));
            case 7 -> due.is("designs()", x.designs(), plain.designs());
            default -> due.is("orbit(" + i + ", " + p + ")", x.orbit(i, p), plain.orbit(i, p));
        }
    }
}
