/**
 * Puts a message together from drops, each the sum of some of its pieces.
 *
 * A drop is a linear equation over bits. A set and its value are packed into
 * one number (set above, value below), so that one exclusive or adds two
 * equations with both their sides.
 */
public final class FountainDesk {
    public static final int NONE = -1;
    public static final int FULL = -2;
    public static final int REFUSED = -3;

    private static final int MAX_DROPS = 10;
    private static final int ALL_DROPS = (1 << MAX_DROPS) - 1;
    private static final int PIECES = 8;
    private static final int MAX_SET = (1 << PIECES) - 1;
    private static final int VALUE_BITS = 8;
    private static final int MAX_VALUE = (1 << VALUE_BITS) - 1;

    private final int[] packedDrops = new int[MAX_DROPS];
    private int kept;

    // Scratch for one call: row b is an equation whose greatest piece is b, or
    // 0. It is built anew from the drops, so that throwing a drop away needs no
    // undoing and a question can't leave anything behind.
    private final int[] rows = new int[PIECES];

    public FountainDesk() {
        kept = 0;
    }

    public int take(int set, int value) {
        if (!isDropSet(set) || !isValue(value)) {
            return NONE;
        }
        if (kept == ALL_DROPS) {
            return FULL;
        }
        int drop = pack(set, value);
        fillRows(ALL_DROPS);
        int rest = reduce(drop);
        // An empty set with a value other than 0 is the only contradiction.
        if (setOf(rest) == 0 && valueOf(rest) != 0) {
            return REFUSED;
        }
        int k = leastFreeNumber();
        packedDrops[k] = drop;
        kept |= 1 << k;
        return k;
    }

    public boolean drop(int k) {
        if (!isKept(k)) {
            return false;
        }
        kept &= ~(1 << k);
        return true;
    }

    public int drops() {
        return kept;
    }

    public int known() {
        fillRows(ALL_DROPS);
        return piecesInRows();
    }

    public int piece(int i) {
        return isPiece(i) ? sum(1 << i) : NONE;
    }

    public int sum(int set) {
        if (set < 0 || set > MAX_SET) {
            return NONE;
        }
        fillRows(ALL_DROPS);
        int unsummed = pack(set, 0);
        int rest = reduce(unsummed);
        return setOf(rest) == 0 ? valueOf(rest) : NONE;
    }

    public int missing() {
        // A well chosen drop adds one independent equation, and none adds more.
        return PIECES - rank(ALL_DROPS);
    }

    public boolean idle(int k) {
        return isKept(k) && enough(~(1 << k));
    }

    public int knownSums() {
        // The known sums are all sums of the independent rows; the empty one
        // doesn't count.
        return (1 << rank(ALL_DROPS)) - 1;
    }

    public int knownWith(int set) {
        if (!isDropSet(set)) {
            return NONE;
        }
        fillRows(ALL_DROPS);
        // Which pieces are known hangs on the sets alone, so any value will do.
        int drop = pack(set, 0);
        addRow(drop);
        int pieces = piecesInRows();
        return countBits(pieces);
    }

    public int bestSet() {
        int best = 1;
        int most = NONE;
        for (int set = 1; set <= MAX_SET; set++) {
            int count = knownWith(set);
            if (count > most) {
                most = count;
                best = set;
            }
        }
        return best;
    }

    public boolean possible(int i, int v) {
        if (!isPiece(i) || !isValue(v)) {
            return false;
        }
        // A piece that isn't known is free: the drops leave it every value.
        int value = piece(i);
        return value == NONE || value == v;
    }

    public boolean enough(int set) {
        // What some of the drops make known is a part of what all do, so equal
        // size means equal.
        int some = rank(set);
        int all = rank(ALL_DROPS);
        return some == all;
    }

    private static boolean isDropSet(int set) {
        return set >= 1 && set <= MAX_SET;
    }

    private static boolean isValue(int value) {
        return value >= 0 && value <= MAX_VALUE;
    }

    private static boolean isPiece(int i) {
        return i >= 0 && i < PIECES;
    }

    private boolean isKept(int k) {
        return k >= 0 && k < MAX_DROPS && (kept & (1 << k)) != 0;
    }

    private static int pack(int set, int value) {
        return set << VALUE_BITS | value;
    }

    private static int setOf(int packed) {
        return packed >> VALUE_BITS;
    }

    private static int valueOf(int packed) {
        return packed & MAX_VALUE;
    }

    private int leastFreeNumber() {
        int k = 0;
        // Stops at the last number, so that the answer is always an index.
        while (k < MAX_DROPS - 1 && isKept(k)) {
            k++;
        }
        return k;
    }

    private void fillRows(int chosen) {
        for (int b = 0; b < PIECES; b++) {
            rows[b] = 0;
        }
        for (int k = 0; k < MAX_DROPS; k++) {
            if ((kept & chosen & (1 << k)) != 0) {
                addRow(packedDrops[k]);
            }
        }
    }

    private void addRow(int packed) {
        int rest = packed;
        for (int b = PIECES - 1; b >= 0; b--) {
            if (hasPiece(rest, b)) {
                if (rows[b] == 0) {
                    rows[b] = rest;
                    return;
                }
                rest ^= rows[b];
            }
        }
    }

    private int reduce(int packed) {
        int rest = packed;
        // From the greatest piece down, because a row brings in lesser pieces.
        for (int b = PIECES - 1; b >= 0; b--) {
            if (hasPiece(rest, b)) {
                rest ^= rows[b];
            }
        }
        return rest;
    }

    private static boolean hasPiece(int packed, int b) {
        return (packed >> (VALUE_BITS + b) & 1) != 0;
    }

    private int rank(int chosen) {
        fillRows(chosen);
        int count = 0;
        for (int b = 0; b < PIECES; b++) {
            if (rows[b] != 0) {
                count++;
            }
        }
        return count;
    }

    private int piecesInRows() {
        int pieces = 0;
        for (int i = 0; i < PIECES; i++) {
            int single = pack(1 << i, 0);
            int rest = reduce(single);
            if (setOf(rest) == 0) {
                pieces |= 1 << i;
            }
        }
        return pieces;
    }

    private static int countBits(int bits) {
        int count = 0;
        for (int b = 0; b < PIECES; b++) {
            count += bits >> b & 1;
        }
        return count;
    }
}
