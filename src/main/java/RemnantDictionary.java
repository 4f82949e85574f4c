import java.util.Arrays;

/**
 * The order of a dictionary: what an ideal of polynomials over the numbers modulo a prime leaves
 * over, how variables act on that, and the reduced basis by the dictionary's order.
 *
 * A monomial is held everywhere as its CODE, the number that tells it to a caller: a byte for each
 * exponent, that of x the highest. No exponent comes above 40, so codes are never negative, and the
 * dictionary's order of monomials is the order of their codes as numbers.
 */
public final class RemnantDictionary {
    public static final int NONE = -1;

    private static final int MOST_VARIABLES = 4;
    private static final int MOST_GENERATORS = 8;
    private static final int MOST_LEFT = 40;
    private static final int MOST_PRODUCTS = MOST_VARIABLES * MOST_LEFT;
    private static final int GREATEST_PRIME = 32003;
    private static final int[] HIGHEST = {30, 12, 7, 5};
    /** The most monomials up to HIGHEST are those of four variables: 9 over 4. */
    private static final int MOST_MONOMIALS = 126;

    private int prime;
    private int generatorCount;
    private final int[] inHand = new int[MOST_MONOMIALS];
    private final int[] generators = new int[MOST_GENERATORS * MOST_MONOMIALS];
    private final Monomials monomials = new Monomials();
    private final Space space = new Space(monomials);
    private final Remnant remnant = new Remnant();
    private final Lexicon lexicon = new Lexicon();

    public RemnantDictionary() {
        prime = 7;
        monomials.lay(2, 0);
    }

    public void field(int p, int n, int order) throws IllegalArgumentException {
        if (!isPrime(p)) {
            throw new IllegalArgumentException("p is no prime up to 32003");
        }
        if (n < 1 || n > MOST_VARIABLES) {
            throw new IllegalArgumentException("n is not 1 .. 4");
        }
        if (order != 0 && order != 1) {
            throw new IllegalArgumentException("order is not 0 or 1");
        }
        prime = p;
        monomials.lay(n, order);
        clear();
    }

    public void coefficient(int e, int c) throws IllegalArgumentException {
        int rank = monomials.rank(e);
        if (rank == NONE) {
            throw new IllegalArgumentException("e is no monomial of the variables up to the highest degree");
        }
        inHand[rank] = Math.floorMod(c, prime);
    }

    public int hand(int e) {
        int rank = monomials.rank(e);
        return rank == NONE ? 0 : inHand[rank];
    }

    public int join() throws IllegalArgumentException, IllegalStateException {
        if (firstThatIsNot0(inHand, MOST_MONOMIALS) == NONE) {
            throw new IllegalArgumentException("the polynomial in hand is 0");
        }
        if (generatorCount >= MOST_GENERATORS) {
            throw new IllegalStateException("there are 8 generators");
        }
        System.arraycopy(inHand, 0, generators, generatorCount * MOST_MONOMIALS, MOST_MONOMIALS);
        generatorCount++;
        Arrays.fill(inHand, 0);
        return generatorCount;
    }

    public void clear() {
        generatorCount = 0;
        Arrays.fill(inHand, 0);
    }

    public int find(int d) throws IllegalArgumentException, IllegalStateException {
        if (d < 0 || d > monomials.highest) {
            throw new IllegalArgumentException("d is not 0 .. the highest degree");
        }
        remnant.forget();
        lexicon.forget();
        if (!hasCompleteBasis(d)) {
            throw new IllegalStateException("the basis is not complete");
        }
        if (space.has1()) {
            throw new IllegalStateException("1 is in the ideal");
        }
        if (!remnant.gather(space)) {
            throw new IllegalStateException("more than 40 monomials are left over");
        }
        remnant.multiply(space);
        lexicon.build(remnant);
        return remnant.size;
    }

    public int left(int k) {
        return k < 0 || k >= remnant.size ? NONE : remnant.codes[k];
    }

    public int times(int v, int k, int j) {
        if (v < 0 || v >= remnant.variables || k < 0 || k >= remnant.size || j < 0 || j >= remnant.size) {
            return NONE;
        }
        return remnant.products[productRow(v, k) + j];
    }

    public int dictionary() {
        return lexicon.count;
    }

    public int entry(int k, int j, int what) {
        if (k < 0 || k >= lexicon.count || j < 0 || (what != 0 && what != 1)) {
            return NONE;
        }
        if (j == 0) {
            return what == 0 ? lexicon.heads[k] : 1;
        }
        int s = lexicon.tailTerm(k, j);
        if (s == NONE) {
            return NONE;
        }
        return what == 0 ? lexicon.standard[s] : lexicon.tails[k * MOST_LEFT + s];
    }

    private boolean hasCompleteBasis(int d) {
        space.start(prime, d);
        for (int g = 0; g < generatorCount; g++) {
            if (!space.takes(generators, g * MOST_MONOMIALS)) {
                return false;
            }
        }
        space.close();
        space.pickBasis();
        return space.isComplete();
    }

    private static boolean isPrime(int p) {
        if (p < 2 || p > GREATEST_PRIME) {
            return false;
        }
        for (int q = 2; q * q <= p; q++) {
            if (p % q == 0) {
                return false;
            }
        }
        return true;
    }

    /** By Fermat: a to the power p - 2. No product comes over 32003 squared, which an int holds. */
    private static int inverse(int a, int p) {
        int answer = 1;
        int square = a;
        for (int power = p - 2; power > 0; power >>= 1) {
            if ((power & 1) == 1) {
                answer = answer * square % p;
            }
            square = square * square % p;
        }
        return answer;
    }

    /** Adds a multiple of one row to another; the factor and the numbers in the rows are 0 .. p - 1. */
    private static void addMultiple(int[] to, int toAt, int[] from, int fromAt, int length, int factor, int p) {
        for (int i = 0; i < length; i++) {
            int number = from[fromAt + i];
            if (number != 0) {
                to[toAt + i] = (to[toAt + i] + factor * number) % p;
            }
        }
    }

    private static int firstThatIsNot0(int[] row, int length) {
        for (int i = 0; i < length; i++) {
            if (row[i] != 0) {
                return i;
            }
        }
        return NONE;
    }

    /** The code of variable v alone. */
    private static int variable(int v) {
        return 1 << (24 - 8 * v);
    }

    private static int exponent(int code, int v) {
        return (code >>> (24 - 8 * v)) & 255;
    }

    private static int degree(int code) {
        return exponent(code, 0) + exponent(code, 1) + exponent(code, 2) + exponent(code, 3);
    }

    private static boolean divides(int divisor, int code) {
        for (int v = 0; v < MOST_VARIABLES; v++) {
            if (exponent(divisor, v) > exponent(code, v)) {
                return false;
            }
        }
        return true;
    }

    private static int degreeOfCommonMultiple(int a, int b) {
        int sum = 0;
        for (int v = 0; v < MOST_VARIABLES; v++) {
            sum += Math.max(exponent(a, v), exponent(b, v));
        }
        return sum;
    }

    /** A number that is greater for the monomial that is greater by the order. */
    private static long key(int code, int order) {
        long key = degree(code);
        for (int i = 0; i < MOST_VARIABLES; i++) {
            int digit = order == 0 ? 255 - exponent(code, MOST_VARIABLES - 1 - i) : exponent(code, i);
            key = key * 256 + digit;
        }
        return key;
    }

    /** Where the row for variable v times left-over monomial k begins among the products. */
    private static int productRow(int v, int k) {
        return (v * MOST_LEFT + k) * MOST_LEFT;
    }

    /** All monomials of the variables up to HIGHEST, the least first; a monomial's place is its RANK. */
    private static final class Monomials {
        int variables;
        int order;
        int highest;
        int count;
        final int[] codes = new int[MOST_MONOMIALS];
        final int[] degrees = new int[MOST_MONOMIALS];
        private final long[] keys = new long[MOST_MONOMIALS];
        /** For variable v and rank i, at v * MOST_MONOMIALS + i, the rank of their product, or NONE. */
        final int[] raised = new int[MOST_VARIABLES * MOST_MONOMIALS];

        void lay(int n, int byOrder) {
            variables = n;
            order = byOrder;
            highest = HIGHEST[n - 1];
            count = 0;
            layWithX();
            for (int i = 0; i < count; i++) {
                degrees[i] = degree(codes[i]);
                for (int v = 0; v < variables; v++) {
                    raised[v * MOST_MONOMIALS + i] = rank(codes[i] + variable(v));
                }
            }
        }

        private void layWithX() {
            for (int x = 0; x <= highest; x++) {
                for (int y = 0; y <= most(1, x); y++) {
                    for (int z = 0; z <= most(2, x + y); z++) {
                        for (int w = 0; w <= most(3, x + y + z); w++) {
                            insert(x << 24 | y << 16 | z << 8 | w);
                        }
                    }
                }
            }
        }

        /** The most that the exponent of variable v can be when those before it have this sum. */
        private int most(int v, int sum) {
            return v < variables ? highest - sum : 0;
        }

        private void insert(int code) {
            if (count >= MOST_MONOMIALS) {
                return;
            }
            long key = key(code, order);
            int at = count;
            for (; at > 0 && keys[at - 1] > key; at--) {
                keys[at] = keys[at - 1];
                codes[at] = codes[at - 1];
            }
            keys[at] = key;
            codes[at] = code;
            count++;
        }

        int rank(int code) {
            long key = key(code, order);
            int low = 0;
            int high = count - 1;
            for (int halving = 0; halving < 32 && low <= high; halving++) {
                int middle = (low + high) >>> 1;
                if (keys[middle] == key) {
                    return middle;
                }
                if (keys[middle] < key) {
                    low = middle + 1;
                } else {
                    high = middle - 1;
                }
            }
            return NONE;
        }
    }

    /** The space of the generators up to a degree, and its basis. */
    private static final class Space {
        final Monomials monomials;
        int prime;
        private int limit;
        /**
         * For each leading monomial one polynomial of the space, with coefficient 1 there, at the
         * monomial's rank times MOST_MONOMIALS. As the order goes by degree first, those that lead
         * with a degree below the limit span all of the space that lies below the limit.
         */
        final int[] rows = new int[MOST_MONOMIALS * MOST_MONOMIALS];
        private final boolean[] leads = new boolean[MOST_MONOMIALS];
        /** The ranks that lead, in the order in which they came; each comes once. */
        private final int[] kept = new int[MOST_MONOMIALS];
        private int keptCount;
        private final int[] work = new int[MOST_MONOMIALS];
        /** The ranks of the leading monomials of the basis. */
        private final int[] basis = new int[MOST_MONOMIALS];
        private int basisCount;

        Space(Monomials monomials) {
            this.monomials = monomials;
        }

        void start(int p, int d) {
            prime = p;
            limit = d;
            keptCount = 0;
            basisCount = 0;
            for (int i = 0; i < MOST_MONOMIALS; i++) {
                leads[i] = false;
            }
        }

        /** False if the generator is of too high a degree. */
        boolean takes(int[] generators, int at) {
            System.arraycopy(generators, at, work, 0, MOST_MONOMIALS);
            for (int i = monomials.count - 1; i >= 0 && monomials.degrees[i] > limit; i--) {
                if (work[i] != 0) {
                    return false;
                }
            }
            absorbWork();
            return true;
        }

        /** Goes on to products with variables until they add nothing, or 1 is there and all is lost. */
        void close() {
            for (int next = 0; next < MOST_MONOMIALS && next < keptCount && !has1(); next++) {
                int lead = kept[next];
                if (monomials.degrees[lead] < limit) {
                    for (int v = 0; v < monomials.variables; v++) {
                        loadProduct(v, lead);
                        absorbWork();
                    }
                }
            }
        }

        private void loadProduct(int v, int lead) {
            Arrays.fill(work, 0);
            for (int i = 0; i <= lead; i++) {
                int to = monomials.raised[v * MOST_MONOMIALS + i];
                if (to != NONE) {
                    work[to] = rows[lead * MOST_MONOMIALS + i];
                }
            }
        }

        private void absorbWork() {
            for (int i = monomials.count - 1; i >= 0; i--) {
                if (work[i] != 0) {
                    if (!leads[i]) {
                        keepWork(i);
                        return;
                    }
                    addMultiple(work, 0, rows, i * MOST_MONOMIALS, i + 1, prime - work[i], prime);
                }
            }
        }

        private void keepWork(int lead) {
            if (keptCount >= MOST_MONOMIALS) {
                return;
            }
            int at = lead * MOST_MONOMIALS;
            Arrays.fill(rows, at, at + MOST_MONOMIALS, 0);
            addMultiple(rows, at, work, 0, lead + 1, inverse(work[lead], prime), prime);
            leads[lead] = true;
            kept[keptCount] = lead;
            keptCount++;
        }

        boolean has1() {
            return leads[0];
        }

        void pickBasis() {
            for (int i = 0; i < monomials.count && basisCount < MOST_MONOMIALS; i++) {
                if (leads[i] && !hasLeadThatDivides(monomials.codes[i])) {
                    basis[basisCount] = i;
                    basisCount++;
                    clearTail(i);
                }
            }
        }

        boolean hasLeadThatDivides(int code) {
            for (int b = 0; b < basisCount; b++) {
                if (divides(monomials.codes[basis[b]], code)) {
                    return true;
                }
            }
            return false;
        }

        /** From above, as a row may bring leading monomials that are less than its own. */
        private void clearTail(int lead) {
            int at = lead * MOST_MONOMIALS;
            for (int i = lead - 1; i >= 0; i--) {
                int number = rows[at + i];
                if (number != 0 && leads[i]) {
                    addMultiple(rows, at, rows, i * MOST_MONOMIALS, i + 1, prime - number, prime);
                }
            }
        }

        /** For generators that were all taken. */
        boolean isComplete() {
            for (int b = 1; b < basisCount; b++) {
                for (int a = 0; a < b; a++) {
                    int common = degreeOfCommonMultiple(monomials.codes[basis[a]], monomials.codes[basis[b]]);
                    int product = monomials.degrees[basis[a]] + monomials.degrees[basis[b]];
                    if (common > limit && common != product) {
                        return false;
                    }
                }
            }
            return true;
        }

        /** The rank of a monomial that the basis leads with, or NONE for another code. */
        int rankInBasis(int code) {
            for (int b = 0; b < basisCount; b++) {
                if (monomials.codes[basis[b]] == code) {
                    return basis[b];
                }
            }
            return NONE;
        }

        /** The exponent of the power of variable v alone that the basis leads with, or NONE. */
        int purePower(int v) {
            for (int b = 0; b < basisCount; b++) {
                int code = monomials.codes[basis[b]];
                if (exponent(code, v) == degree(code)) {
                    return degree(code);
                }
            }
            return NONE;
        }
    }

    /** The monomials that are left over, and what their products with variables come to. */
    private static final class Remnant {
        int prime;
        int variables;
        int size;
        final int[] codes = new int[MOST_LEFT];
        final int[] products = new int[MOST_PRODUCTS * MOST_LEFT];
        private final int[] bounds = new int[MOST_VARIABLES];
        /** The products in the order's order, each as v * MOST_LEFT + k, beside their keys. */
        private final int[] pairs = new int[MOST_PRODUCTS];
        private final long[] keys = new long[MOST_PRODUCTS];
        private int pairCount;

        void forget() {
            size = 0;
        }

        /** False, with nothing kept, if there are more than 40. */
        boolean gather(Space space) {
            prime = space.prime;
            variables = space.monomials.variables;
            if (!setBounds(space) || !gatherWithin(space)) {
                forget();
                return false;
            }
            return true;
        }

        /** False if some variable has no bound: then there is no end of monomials left over. */
        private boolean setBounds(Space space) {
            for (int v = 0; v < MOST_VARIABLES; v++) {
                bounds[v] = v < variables ? space.purePower(v) : 1;
                if (bounds[v] == NONE) {
                    return false;
                }
            }
            return true;
        }

        private boolean gatherWithin(Space space) {
            for (int x = 0; x < bounds[0]; x++) {
                for (int y = 0; y < bounds[1]; y++) {
                    for (int z = 0; z < bounds[2]; z++) {
                        for (int w = 0; w < bounds[3]; w++) {
                            int code = x << 24 | y << 16 | z << 8 | w;
                            if (!space.hasLeadThatDivides(code) && !takes(code, space.monomials.order)) {
                                return false;
                            }
                        }
                    }
                }
            }
            return true;
        }

        private boolean takes(int code, int order) {
            if (size >= MOST_LEFT) {
                return false;
            }
            long key = key(code, order);
            int at = size;
            for (; at > 0 && key(codes[at - 1], order) > key; at--) {
                codes[at] = codes[at - 1];
            }
            codes[at] = code;
            size++;
            return true;
        }

        /** From the least product up, as what a product comes to is told by lesser products. */
        void multiply(Space space) {
            sortPairs(space.monomials.order);
            for (int i = 0; i < pairCount; i++) {
                fillProduct(space, pairs[i] / MOST_LEFT, pairs[i] % MOST_LEFT);
            }
        }

        private void sortPairs(int order) {
            pairCount = 0;
            for (int v = 0; v < variables; v++) {
                for (int k = 0; k < size; k++) {
                    insertPair(v * MOST_LEFT + k, key(codes[k] + variable(v), order));
                }
            }
        }

        private void insertPair(int pair, long key) {
            if (pairCount >= MOST_PRODUCTS) {
                return;
            }
            int at = pairCount;
            for (; at > 0 && keys[at - 1] > key; at--) {
                keys[at] = keys[at - 1];
                pairs[at] = pairs[at - 1];
            }
            keys[at] = key;
            pairs[at] = pair;
            pairCount++;
        }

        private void fillProduct(Space space, int v, int k) {
            int row = productRow(v, k);
            Arrays.fill(products, row, row + MOST_LEFT, 0);
            int code = codes[k] + variable(v);
            int place = placeOf(code);
            if (place != NONE) {
                products[row + place] = 1;
                return;
            }
            int lead = space.rankInBasis(code);
            if (lead != NONE) {
                fillFromBasis(space, lead, row);
            } else {
                fillFromLesser(v, k, row);
            }
        }

        private int placeOf(int code) {
            for (int k = 0; k < size; k++) {
                if (codes[k] == code) {
                    return k;
                }
            }
            return NONE;
        }

        private void fillFromBasis(Space space, int lead, int row) {
            for (int i = 0; i < lead; i++) {
                int number = space.rows[lead * MOST_MONOMIALS + i];
                int place = number == 0 ? NONE : placeOf(space.monomials.codes[i]);
                if (place != NONE) {
                    products[row + place] = prime - number;
                }
            }
        }

        /**
         * A product that is neither left over nor led by the basis is a variable u times a lesser
         * product that is not left over: u acts on what that lesser one comes to.
         */
        private void fillFromLesser(int v, int k, int row) {
            for (int u = 0; u < variables; u++) {
                int lesser = codes[k] - variable(u);
                if (exponent(codes[k], u) > 0 && placeOf(lesser + variable(v)) == NONE) {
                    int place = placeOf(lesser);
                    if (place != NONE) {
                        act(u, products, productRow(v, place), products, row);
                        return;
                    }
                }
            }
        }

        /** Adds what variable v makes of a row over the left-over monomials to another row. */
        void act(int v, int[] from, int fromAt, int[] to, int toAt) {
            for (int j = 0; j < size; j++) {
                int number = from[fromAt + j];
                if (number != 0) {
                    addMultiple(to, toAt, products, productRow(v, j), size, number, prime);
                }
            }
        }
    }

    /**
     * The dictionary's reduced basis. Monomials are gone through from the least one up by the
     * dictionary: one that comes to a sum of what earlier ones come to leads a polynomial of the
     * basis, and any other is STANDARD, no leading monomial of the ideal.
     */
    private static final class Lexicon {
        private int prime;
        private int size;
        int count;
        final int[] heads = new int[MOST_PRODUCTS];
        /** The coefficients of the standard monomials in each polynomial. */
        final int[] tails = new int[MOST_PRODUCTS * MOST_LEFT];
        final int[] standard = new int[MOST_LEFT];
        private int standardCount;
        /** What each standard monomial comes to. */
        private final int[] images = new int[MOST_LEFT * MOST_LEFT];
        /** The images made so that row t has 1 at its pivot, and later rows have 0 there. */
        private final int[] steps = new int[MOST_LEFT * MOST_LEFT];
        /** How each row of steps is a sum of multiples of images. */
        private final int[] mixes = new int[MOST_LEFT * MOST_LEFT];
        private final int[] pivots = new int[MOST_LEFT];
        private final int[] image = new int[MOST_LEFT];
        private final int[] rest = new int[MOST_LEFT];
        private final int[] mix = new int[MOST_LEFT];

        void forget() {
            count = 0;
        }

        void build(Remnant remnant) {
            prime = remnant.prime;
            size = remnant.size;
            count = 0;
            standardCount = 0;
            Arrays.fill(image, 0);
            // The least that is left over is always 1, and so is the dictionary's first monomial.
            image[0] = 1;
            place(0);
            int last = 0;
            for (int product = 0; product < MOST_PRODUCTS; product++) {
                int pair = leastProductAbove(last, remnant.variables);
                if (pair == NONE) {
                    break;
                }
                int v = pair / MOST_LEFT;
                int s = pair % MOST_LEFT;
                last = standard[s] + variable(v);
                if (!hasHeadThatDivides(last)) {
                    Arrays.fill(image, 0);
                    remnant.act(v, images, s * MOST_LEFT, image, 0);
                    place(last);
                }
            }
        }

        /** All that can be standard or lead next is a variable times a standard monomial. */
        private int leastProductAbove(int last, int variables) {
            int answer = NONE;
            int least = Integer.MAX_VALUE;
            for (int v = 0; v < variables; v++) {
                for (int s = 0; s < standardCount; s++) {
                    int code = standard[s] + variable(v);
                    if (code > last && code < least) {
                        least = code;
                        answer = v * MOST_LEFT + s;
                    }
                }
            }
            return answer;
        }

        private boolean hasHeadThatDivides(int code) {
            for (int k = 0; k < count; k++) {
                if (divides(heads[k], code)) {
                    return true;
                }
            }
            return false;
        }

        private void place(int code) {
            reduceImage();
            int pivot = firstThatIsNot0(rest, size);
            if (pivot == NONE) {
                addPolynomial(code);
            } else {
                addStandard(code, pivot);
            }
        }

        /** The rest is the image with the mix of earlier images added. */
        private void reduceImage() {
            System.arraycopy(image, 0, rest, 0, MOST_LEFT);
            Arrays.fill(mix, 0);
            for (int t = 0; t < standardCount; t++) {
                int number = rest[pivots[t]];
                if (number != 0) {
                    addMultiple(rest, 0, steps, t * MOST_LEFT, size, prime - number, prime);
                    addMultiple(mix, 0, mixes, t * MOST_LEFT, size, prime - number, prime);
                }
            }
        }

        private void addPolynomial(int code) {
            if (count < MOST_PRODUCTS) {
                heads[count] = code;
                System.arraycopy(mix, 0, tails, count * MOST_LEFT, MOST_LEFT);
                count++;
            }
        }

        private void addStandard(int code, int pivot) {
            if (standardCount < MOST_LEFT) {
                int at = standardCount * MOST_LEFT;
                int factor = inverse(rest[pivot], prime);
                mix[standardCount] = 1;
                Arrays.fill(steps, at, at + MOST_LEFT, 0);
                Arrays.fill(mixes, at, at + MOST_LEFT, 0);
                addMultiple(steps, at, rest, 0, size, factor, prime);
                addMultiple(mixes, at, mix, 0, size, factor, prime);
                System.arraycopy(image, 0, images, at, MOST_LEFT);
                pivots[standardCount] = pivot;
                standard[standardCount] = code;
                standardCount++;
            }
        }

        /** Which standard monomial term j of polynomial k has, from term 1 on; NONE without such a term. */
        int tailTerm(int k, int j) {
            int term = 0;
            for (int s = standardCount - 1; s >= 0; s--) {
                if (tails[k * MOST_LEFT + s] != 0) {
                    term++;
                    if (term == j) {
                        return s;
                    }
                }
            }
            return NONE;
        }
    }
}
