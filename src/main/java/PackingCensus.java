/**
 * Lists all packings of so many blocks of one size on a few points, up to renaming of the points.
 *
 * <p>How the forms are found: of two rows of one length the less is the one that has more of the
 * least mask of which they have not equally many. So a form is the laying whose numbers of each
 * block, the least mask first, are the greatest such row of numbers.
 */
public final class PackingCensus {
    public static final int NONE = -1;
    public static final int BAD = -2;
    public static final int FRACTION = -3;
    public static final int FISHER = -4;
    public static final int FULL = -5;

    private static final int LEAST_POINTS = 3;
    private static final int MOST_POINTS = 6;
    private static final int LEAST_BLOCK_SIZE = 2;
    private static final int MOST_LAMBDA = 4;
    private static final int MOST_BLOCKS = 10;
    private static final int MOST_ENTRIES = 60;
    private static final int MASKS = 64;
    /** No block size has more different blocks than size 3 on 6 points. */
    private static final int MOST_KINDS = 20;

    private final Ground ground;
    private final Former former;
    private final Row hand;
    private final Row handForm;
    private final Row trial;
    private Listing listing;
    private Listing spare;
    private int lambda;
    private int handOrder;
    private boolean handFormKnown;
    private boolean begun;
    private boolean nextTooLong;

    public PackingCensus() {
        former = new Former();
        ground = former.ground;
        hand = new Row();
        handForm = new Row();
        trial = new Row();
        listing = new Listing();
        spare = new Listing();
        lambda = 0;
        handOrder = 0;
        handFormKnown = false;
        begun = false;
        nextTooLong = false;
    }

    public int begin(int v, int k, int lambda) {
        if (v < LEAST_POINTS || v > MOST_POINTS) {
            return BAD;
        }
        if (k < LEAST_BLOCK_SIZE || k > v - 1 || lambda < 1 || lambda > MOST_LAMBDA) {
            return BAD;
        }
        ground.lay(v, k);
        this.lambda = lambda;
        begun = true;
        nextTooLong = false;
        hand.clear();
        handFormKnown = false;
        listing.restart(0);
        listing.addEmptyRow(ground.renamings());
        return blocksOfDesign(v, k, lambda);
    }

    public int grow() {
        if (!begun) {
            return NONE;
        }
        if (nextTooLong || listing.rowLength() >= MOST_BLOCKS) {
            return FULL;
        }
        if (!fillSpare()) {
            nextTooLong = true;
            return FULL;
        }
        Listing grown = spare;
        spare = listing;
        listing = grown;
        return listing.size();
    }

    public int level() {
        return begun ? listing.rowLength() : NONE;
    }

    public int entries() {
        return listing.size();
    }

    public int block(int i, int j) {
        return listing.has(i) && j >= 0 && j < listing.rowLength() ? listing.mask(i, j) : NONE;
    }

    public int order(int i) {
        return listing.has(i) ? listing.symmetriesOf(i) : NONE;
    }

    public int labelled() {
        int sum = 0;
        int renamings = ground.renamings();
        for (int i = 0; i < listing.size(); i++) {
            int own = listing.symmetriesOf(i);
            // Each laying like the entry comes from as many renamings of it as its order says.
            sum += own > 0 ? renamings / own : 0;
        }
        return sum;
    }

    public int together(int i, int p, int q) {
        if (!listing.has(i) || !ground.isPoint(p) || !ground.isPoint(q)) {
            return NONE;
        }
        return listing.blocksHolding(i, (1 << p) | (1 << q));
    }

    public boolean design(int i) {
        return listing.has(i) && isDesign(i);
    }

    public int designs() {
        int sum = 0;
        for (int i = 0; i < listing.size(); i++) {
            sum += isDesign(i) ? 1 : 0;
        }
        return sum;
    }

    public int orbit(int i, int p) {
        return listing.has(i) && ground.isPoint(p) ? listing.leastImage(i, p) : NONE;
    }

    public int put(int mask) {
        if (!begun || !ground.isBlock(mask)) {
            return BAD;
        }
        if (hand.size() >= MOST_BLOCKS) {
            return FULL;
        }
        hand.add(mask);
        handFormKnown = false;
        return hand.size();
    }

    public boolean drop(int j) {
        if (!hand.has(j)) {
            return false;
        }
        hand.removeAt(j);
        handFormKnown = false;
        return true;
    }

    public boolean swap(int p, int q) {
        if (!ground.isPoint(p) || !ground.isPoint(q)) {
            return false;
        }
        // The form of the hand stays known: the hand is like what it was.
        hand.exchangePoints(p, q);
        return true;
    }

    public boolean copy(int i) {
        if (!listing.has(i)) {
            return false;
        }
        listing.writeTo(i, hand);
        handFormKnown = false;
        return true;
    }

    public int hand(int j) {
        return hand.has(j) ? hand.get(j) : NONE;
    }

    public int formed(int j) {
        if (!hand.has(j)) {
            return NONE;
        }
        formHand();
        return handForm.has(j) ? handForm.get(j) : NONE;
    }

    public int symmetries() {
        if (!begun) {
            return NONE;
        }
        formHand();
        return handOrder;
    }

    public int find() {
        if (!begun || hand.size() != listing.rowLength()) {
            return NONE;
        }
        formHand();
        return listing.placeOf(handForm);
    }

    /** The numbers are those of a census, so no divisor is 0. */
    private static int blocksOfDesign(int v, int k, int lambda) {
        int pairsAtPoint = lambda * (v - 1);
        if (pairsAtPoint % (k - 1) != 0) {
            return FRACTION;
        }
        int incidences = v * (pairsAtPoint / (k - 1));
        if (incidences % k != 0) {
            return FRACTION;
        }
        int blocks = incidences / k;
        return blocks < v ? FISHER : blocks;
    }

    private boolean fillSpare() {
        spare.restart(listing.rowLength() + 1);
        for (int i = 0; i < listing.size(); i++) {
            if (!addFormsFrom(i)) {
                return false;
            }
        }
        return true;
    }

    /**
     * A form without its last block is a form: a lesser row like the rest, with one more block
     * anywhere in it, would be less than the whole. So each form of the next level comes once,
     * from one entry and a block not before its last, and all come in order.
     */
    private boolean addFormsFrom(int i) {
        listing.writeTo(i, trial);
        int last = trial.last();
        for (int b = 0; b < ground.kinds(); b++) {
            int mask = ground.kind(b);
            if (mask < last || !staysPacking(i, mask)) {
                continue;
            }
            trial.add(mask);
            if (former.isForm(trial)) {
                if (spare.isFull()) {
                    return false;
                }
                spare.addRow(trial, former);
            }
            trial.removeAt(trial.size() - 1);
        }
        return true;
    }

    private boolean staysPacking(int i, int added) {
        for (int q = 1; q < ground.points(); q++) {
            for (int p = 0; p < q; p++) {
                int pair = (1 << p) | (1 << q);
                if ((added & pair) == pair && listing.blocksHolding(i, pair) >= lambda) {
                    return false;
                }
            }
        }
        return true;
    }

    private boolean isDesign(int i) {
        for (int q = 1; q < ground.points(); q++) {
            for (int p = 0; p < q; p++) {
                if (listing.blocksHolding(i, (1 << p) | (1 << q)) != lambda) {
                    return false;
                }
            }
        }
        return true;
    }

    private void formHand() {
        if (!handFormKnown) {
            former.findForm(hand, handForm);
            handOrder = former.symmetriesFound();
            handFormKnown = true;
        }
    }

    /** The points of a census and its kinds of block: each mask that a block can have, the least first. */
    private static final class Ground {
        private final int[] kindMasks = new int[MOST_KINDS];
        /** At t: how many kinds lie within the points before t. */
        private final int[] kindsBefore = new int[MOST_POINTS + 1];
        private int pointCount;
        private int blockSize;
        private int kindCount;

        void lay(int v, int k) {
            pointCount = v;
            blockSize = k;
            kindCount = 0;
            for (int t = 0; t < v; t++) {
                kindsBefore[t] = kindCount;
                addKindsEndingAt(t);
            }
            kindsBefore[v] = kindCount;
        }

        private void addKindsEndingAt(int t) {
            for (int mask = 1 << t; mask < 2 << t; mask++) {
                if (Integer.bitCount(mask) == blockSize && kindCount < MOST_KINDS) {
                    kindMasks[kindCount] = mask;
                    kindCount++;
                }
            }
        }

        int points() {
            return pointCount;
        }

        boolean isPoint(int p) {
            return p >= 0 && p < pointCount;
        }

        boolean isBlock(int mask) {
            return mask >= 0 && mask < 1 << pointCount && Integer.bitCount(mask) == blockSize;
        }

        int kinds() {
            return kindCount;
        }

        int kind(int b) {
            return kindMasks[b];
        }

        int firstKindEndingAt(int t) {
            return kindsBefore[t];
        }

        int renamings() {
            int product = 1;
            for (int n = 2; n <= pointCount; n++) {
                product *= n;
            }
            return product;
        }
    }

    /** A row of at most 10 masks. */
    private static final class Row {
        private final int[] masks = new int[MOST_BLOCKS];
        private int length = 0;

        int size() {
            return length;
        }

        boolean has(int j) {
            return j >= 0 && j < length;
        }

        int get(int j) {
            return masks[j];
        }

        /** 0, which is before every block, when the row is empty. */
        int last() {
            return length > 0 ? masks[length - 1] : 0;
        }

        void clear() {
            length = 0;
        }

        void add(int mask) {
            if (length < MOST_BLOCKS) {
                masks[length] = mask;
                length++;
            }
        }

        void removeAt(int j) {
            if (!has(j)) {
                return;
            }
            for (int n = j + 1; n < length; n++) {
                masks[n - 1] = masks[n];
            }
            length--;
        }

        void exchangePoints(int p, int q) {
            for (int j = 0; j < length; j++) {
                boolean one = ((masks[j] >> p) & 1) != ((masks[j] >> q) & 1);
                if (one) {
                    masks[j] ^= (1 << p) | (1 << q);
                }
            }
        }
    }

    /** The entries of one level, each with its order and with the least image of each point. */
    private static final class Listing {
        private final int[] masks = new int[MOST_ENTRIES * MOST_BLOCKS];
        private final int[] orders = new int[MOST_ENTRIES];
        private final int[] images = new int[MOST_ENTRIES * MOST_POINTS];
        private int blocksEach = 0;
        private int count = 0;

        void restart(int rowLength) {
            blocksEach = rowLength;
            count = 0;
        }

        /** Every renaming takes the row without masks to itself, so each point can go to 0. */
        void addEmptyRow(int renamings) {
            orders[0] = renamings;
            for (int p = 0; p < MOST_POINTS; p++) {
                images[p] = 0;
            }
            count = 1;
        }

        void addRow(Row row, Former former) {
            if (isFull() || row.size() != blocksEach) {
                return;
            }
            for (int j = 0; j < blocksEach; j++) {
                masks[count * MOST_BLOCKS + j] = row.get(j);
            }
            for (int p = 0; p < MOST_POINTS; p++) {
                images[count * MOST_POINTS + p] = former.leastImageFound(p);
            }
            orders[count] = former.symmetriesFound();
            count++;
        }

        int size() {
            return count;
        }

        boolean isFull() {
            return count >= MOST_ENTRIES;
        }

        boolean has(int i) {
            return i >= 0 && i < count;
        }

        int rowLength() {
            return blocksEach;
        }

        int mask(int i, int j) {
            return masks[i * MOST_BLOCKS + j];
        }

        int symmetriesOf(int i) {
            return orders[i];
        }

        int leastImage(int i, int p) {
            return images[i * MOST_POINTS + p];
        }

        int blocksHolding(int i, int points) {
            int sum = 0;
            for (int j = 0; j < blocksEach; j++) {
                sum += (mask(i, j) & points) == points ? 1 : 0;
            }
            return sum;
        }

        void writeTo(int i, Row row) {
            row.clear();
            for (int j = 0; j < blocksEach; j++) {
                row.add(mask(i, j));
            }
        }

        int placeOf(Row row) {
            for (int i = 0; i < count; i++) {
                if (isEntry(i, row)) {
                    return i;
                }
            }
            return NONE;
        }

        private boolean isEntry(int i, Row row) {
            if (row.size() != blocksEach) {
                return false;
            }
            for (int j = 0; j < blocksEach; j++) {
                if (mask(i, j) != row.get(j)) {
                    return false;
                }
            }
            return true;
        }
    }

    /**
     * Tries the renamings of a laying, point after point. The points before t come first in the
     * order of the masks, so what they are taken to settles a first part of the row, and a part
     * that is worse than the best one ends the trial of all renamings that begin so.
     */
    private static final class Former {
        final Ground ground = new Ground();
        /** By mask: how often the block comes in the laying. */
        private final int[] times = new int[MASKS];
        /** By kind: how often it comes in the best laying so far, -1 where that is still open. */
        private final int[] best = new int[MOST_KINDS];
        /** By mask of settled points: the mask of the points to which they are taken. */
        private final int[] image = new int[MASKS];
        private final int[] takenTo = new int[MOST_POINTS];
        private final int[] leastImages = new int[MOST_POINTS];
        private int bestRenamings;
        private boolean stopWhenBeaten;
        private boolean beaten;

        /** Finds the order and the least images too, when the answer is true. */
        boolean isForm(Row row) {
            start(row);
            stopWhenBeaten = true;
            tryPointsFor(0, 0);
            return !beaten;
        }

        void findForm(Row row, Row form) {
            start(row);
            stopWhenBeaten = false;
            tryPointsFor(0, 0);
            form.clear();
            for (int b = 0; b < ground.kinds(); b++) {
                for (int n = 0; n < best[b]; n++) {
                    form.add(ground.kind(b));
                }
            }
        }

        int symmetriesFound() {
            return bestRenamings;
        }

        int leastImageFound(int p) {
            return leastImages[p];
        }

        private void start(Row row) {
            for (int b = 0; b < ground.kinds(); b++) {
                times[ground.kind(b)] = 0;
            }
            for (int j = 0; j < row.size(); j++) {
                times[row.get(j)]++;
            }
            for (int b = 0; b < ground.kinds(); b++) {
                best[b] = times[ground.kind(b)];
            }
            for (int p = 0; p < MOST_POINTS; p++) {
                leastImages[p] = p;
            }
            image[0] = 0;
            bestRenamings = 0;
            beaten = false;
        }

        /** The points before t are settled, and used is the mask of what they are taken to. */
        private void tryPointsFor(int t, int used) {
            if (t >= ground.points()) {
                countRenaming();
                return;
            }
            for (int q = 0; q < ground.points(); q++) {
                if (((used >> q) & 1) == 0) {
                    tryPoint(t, q, used);
                }
                if (beaten && stopWhenBeaten) {
                    return;
                }
            }
        }

        private void tryPoint(int t, int q, int used) {
            if (!isAsGood(t, q)) {
                return;
            }
            takenTo[t] = q;
            if (t + 1 < ground.points()) {
                settleImages(t, q);
            }
            tryPointsFor(t + 1, used | (1 << q));
        }

        private void settleImages(int t, int q) {
            for (int mask = 0; mask < 1 << t; mask++) {
                image[(1 << t) | mask] = image[mask] | (1 << q);
            }
        }

        /** Looks at the kinds whose greatest point is t; what is better becomes the best. */
        private boolean isAsGood(int t, int q) {
            int end = ground.firstKindEndingAt(t + 1);
            for (int b = ground.firstKindEndingAt(t); b < end; b++) {
                int number = times[image[ground.kind(b) ^ (1 << t)] | (1 << q)];
                if (number < best[b]) {
                    return false;
                }
                if (number > best[b]) {
                    beaten = true;
                    if (stopWhenBeaten) {
                        return false;
                    }
                    makeBest(b, number);
                }
            }
            return true;
        }

        private void makeBest(int b, int number) {
            best[b] = number;
            for (int n = b + 1; n < MOST_KINDS; n++) {
                best[n] = -1;
            }
            bestRenamings = 0;
        }

        /** While nothing better was found, the renaming takes the laying to itself. */
        private void countRenaming() {
            bestRenamings++;
            for (int p = 0; p < ground.points(); p++) {
                leastImages[p] = Math.min(leastImages[p], takenTo[p]);
            }
        }
    }
}
