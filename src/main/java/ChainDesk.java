/** Pieces of space made of points, lines, triangles and so on, and their holes, counted modulo 2. */
public final class ChainDesk {
    private static final int POINTS = 5;
    private static final int SIMPLICES_END = 32;
    private static final int GREATEST_DIMENSION = 4;
    // At most 10 simplices share a dimension (the lines, or the triangles, of 5 points).
    private static final int MOST_CHAINS = 1024;

    private final boolean[] held = new boolean[SIMPLICES_END];
    // Only a worksheet: every call that reads it has filled it anew, since chains change their meaning.
    private final int[] boundaries = new int[MOST_CHAINS];

    public ChainDesk() {
    }

    public int add(int simplex) {
        if (!isSimplex(simplex)) {
            return -1;
        }
        int added = 0;
        for (int s = 1; s < SIMPLICES_END; s++) {
            if (hasAllPoints(simplex, s) && !held[s]) {
                held[s] = true;
                added++;
            }
        }
        return added;
    }

    public int remove(int simplex) {
        if (!isSimplex(simplex)) {
            return -1;
        }
        int removed = 0;
        for (int s = 1; s < SIMPLICES_END; s++) {
            if (hasAllPoints(s, simplex) && held[s]) {
                held[s] = false;
                removed++;
            }
        }
        return removed;
    }

    public int count(int k) {
        return isDimension(k) ? heldOfDimension(k) : -1;
    }

    public int simplex(int k, int i) {
        if (!isDimension(k)) {
            return -1;
        }
        int number = 0;
        for (int s = 1; s < SIMPLICES_END; s++) {
            if (isHeldOfDimension(s, k)) {
                if (number == i) {
                    return s;
                }
                number++;
            }
        }
        return -1;
    }

    public int boundary(int k, int chain) {
        if (!isChain(k, chain)) {
            return -1;
        }
        int chains = listBoundaries(k);
        return chain < chains ? boundaries[chain] : -1;
    }

    public int holes(int k) {
        if (!isDimension(k)) {
            return -1;
        }
        // Each filled chain is the boundary of equally many chains, as many as there are cycles one
        // dimension up; so the filled chains need not be told apart to be counted.
        int filledBits = heldOfDimension(k + 1) - cycleBits(k + 1);
        return cycleBits(k) - filledBits;
    }

    public int filled(int k, int chain) {
        if (!isChain(k, chain)) {
            return -1;
        }
        return leastFilling(k, chain) >= 0 ? 1 : 0;
    }

    public int filling(int k, int chain) {
        if (!isChain(k, chain)) {
            return -1;
        }
        return leastFilling(k, chain);
    }

    public int least(int k, int chain) {
        if (!isChain(k, chain)) {
            return -1;
        }
        int chains = listBoundaries(k + 1);
        int least = chain;
        for (int c = 0; c < chains; c++) {
            int other = chain ^ boundaries[c];
            if (other < least) {
                least = other;
            }
        }
        return least;
    }

    public int alternating() {
        int sum = 0;
        for (int k = 0; k <= GREATEST_DIMENSION; k++) {
            int ofDimension = heldOfDimension(k);
            sum += k % 2 == 0 ? ofDimension : -ofDimension;
        }
        return sum;
    }

    private static boolean isSimplex(int number) {
        return number >= 1 && number < SIMPLICES_END;
    }

    private static boolean isDimension(int k) {
        return k >= 0 && k <= GREATEST_DIMENSION;
    }

    private boolean isChain(int k, int number) {
        return isDimension(k) && number >= 0 && number < 1 << heldOfDimension(k);
    }

    private static boolean hasAllPoints(int simplex, int part) {
        return (simplex & part) == part;
    }

    private boolean isHeldOfDimension(int simplex, int k) {
        if (simplex < 1 || simplex >= SIMPLICES_END || !held[simplex]) {
            return false;
        }
        int points = 0;
        for (int x = 0; x < POINTS; x++) {
            points += simplex >> x & 1;
        }
        return points == k + 1;
    }

    private int heldOfDimension(int k) {
        return heldBelow(SIMPLICES_END, k);
    }

    /** For a held simplex of dimension k this is its number in chains. */
    private int heldBelow(int simplex, int k) {
        int number = 0;
        for (int s = 1; s < simplex && s < SIMPLICES_END; s++) {
            if (isHeldOfDimension(s, k)) {
                number++;
            }
        }
        return number;
    }

    private int boundaryOfSimplex(int simplex, int k) {
        int chain = 0;
        for (int x = 0; x < POINTS; x++) {
            int face = simplex & ~(1 << x);
            // A point's only candidate is the empty set, which is no face.
            if (face != simplex && face != 0) {
                chain ^= 1 << heldBelow(face, k - 1);
            }
        }
        return chain;
    }

    /**
     * Fills boundaries with those of all chains of dimension k, and answers how many chains these are.
     * k may be one above the greatest dimension: then the empty chain is the only one, so the rules for
     * dimension 4 need no case of their own.
     */
    private int listBoundaries(int k) {
        boundaries[0] = 0;
        int chains = 1;
        for (int s = 1; s < SIMPLICES_END; s++) {
            if (isHeldOfDimension(s, k) && 2 * chains <= MOST_CHAINS) {
                int own = boundaryOfSimplex(s, k);
                for (int c = 0; c < chains; c++) {
                    boundaries[chains + c] = boundaries[c] ^ own;
                }
                chains *= 2;
            }
        }
        return chains;
    }

    /** The b for which there are 2^b cycles of dimension k. */
    private int cycleBits(int k) {
        int chains = listBoundaries(k);
        int cycles = 0;
        for (int c = 0; c < chains; c++) {
            if (boundaries[c] == 0) {
                cycles++;
            }
        }
        int bits = 0;
        for (int power = 2; power <= cycles && power <= MOST_CHAINS; power *= 2) {
            bits++;
        }
        return bits;
    }

    private int leastFilling(int k, int chain) {
        int chains = listBoundaries(k + 1);
        for (int c = 0; c < chains; c++) {
            if (boundaries[c] == chain) {
                return c;
            }
        }
        return -2;
    }
}
