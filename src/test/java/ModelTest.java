/**
 * Long runs of mixed calls against a model that counts messages out, straight
 * from the document's terms. The bits of a value don't touch each other, so
 * the messages are kept per bit: for each of 8 bits, which of the 256 ways to
 * spread that bit over the pieces are left.
 */
public final class ModelTest {
    private static final int RUNS = 300;
    private static final int CALLS = 512;

    private static int wrong = 0;
    private static long seed = 1;

    private final int[] sets = new int[10];
    private final int[] values = new int[10];
    private int kept = 0;

    private static int pick(int bound) {
        seed = seed * 6364136223846793005L + 1442695040888963407L;
        return (int) ((seed >>> 33) % bound);
    }

    private static int parity(int bits) {
        return Integer.bitCount(bits) & 1;
    }

    private boolean[][] messages(int chosen) {
        boolean[][] left = new boolean[8][256];
        for (int bit = 0; bit < 8; bit++) {
            for (int way = 0; way < 256; way++) {
                left[bit][way] = true;
                for (int k = 0; k < 10; k++) {
                    if ((kept & chosen & 1 << k) != 0 && parity(way & sets[k]) != (values[k] >> bit & 1)) {
                        left[bit][way] = false;
                    }
                }
            }
        }
        return left;
    }

    private static boolean hasWay(boolean[] ways, int set, int odd) {
        for (int way = 0; way < 256; way++) {
            if (ways[way] && parity(way & set) == odd) {
                return true;
            }
        }
        return false;
    }

    private static boolean canBe(boolean[][] left, int set, int value) {
        for (int bit = 0; bit < 8; bit++) {
            if (!hasWay(left[bit], set, value >> bit & 1)) {
                return false;
            }
        }
        return true;
    }

    private static int valueOf(boolean[][] left, int set) {
        int value = 0;
        for (int bit = 0; bit < 8; bit++) {
            boolean even = hasWay(left[bit], set, 0);
            boolean odd = hasWay(left[bit], set, 1);
            if (even && odd) {
                return -1;
            }
            value |= odd ? 1 << bit : 0;
        }
        return value;
    }

    private static boolean[] knownSets(boolean[][] left) {
        boolean[] known = new boolean[256];
        for (int set = 0; set < 256; set++) {
            known[set] = valueOf(left, set) >= 0;
        }
        return known;
    }

    private static int knownPieces(boolean[][] left) {
        int pieces = 0;
        for (int i = 0; i < 8; i++) {
            pieces |= valueOf(left, 1 << i) >= 0 ? 1 << i : 0;
        }
        return pieces;
    }

    int take(int set, int value) {
        if (set < 1 || set > 255 || value < 0 || value > 255) {
            return -1;
        }
        if (kept == 1023) {
            return -2;
        }
        if (!canBe(messages(1023), set, value)) {
            return -3;
        }
        int k = Integer.numberOfTrailingZeros(~kept);
        sets[k] = set;
        values[k] = value;
        kept |= 1 << k;
        return k;
    }

    boolean drop(int k) {
        if (k < 0 || k > 9 || (kept >> k & 1) == 0) {
            return false;
        }
        kept ^= 1 << k;
        return true;
    }

    int known() {
        return knownPieces(messages(1023));
    }

    int sum(int set) {
        return set < 0 || set > 255 ? -1 : valueOf(messages(1023), set);
    }

    int piece(int i) {
        return i < 0 || i > 7 ? -1 : sum(1 << i);
    }

    int missing() {
        // One more drop leaves half of the ways of a bit at the least.
        int ways = 0;
        for (boolean way : messages(1023)[0]) {
            ways += way ? 1 : 0;
        }
        return Integer.numberOfTrailingZeros(ways);
    }

    boolean idle(int k) {
        return k >= 0 && k <= 9 && (kept >> k & 1) != 0 && enough(~(1 << k));
    }

    int knownSums() {
        boolean[] known = knownSets(messages(1023));
        int count = 0;
        for (int set = 1; set < 256; set++) {
            count += known[set] ? 1 : 0;
        }
        return count;
    }

    private static int knownWithIn(boolean[][] all, int set) {
        boolean[][] left = new boolean[8][256];
        for (int bit = 0; bit < 8; bit++) {
            int odd = hasWay(all[bit], set, 1) ? 1 : 0;
            for (int way = 0; way < 256; way++) {
                left[bit][way] = all[bit][way] && parity(way & set) == odd;
            }
        }
        return Integer.bitCount(knownPieces(left));
    }

    int knownWith(int set) {
        return set < 1 || set > 255 ? -1 : knownWithIn(messages(1023), set);
    }

    int bestSet() {
        boolean[][] all = messages(1023);
        int[] counts = new int[256];
        int most = 0;
        for (int set = 1; set < 256; set++) {
            counts[set] = knownWithIn(all, set);
            most = Math.max(most, counts[set]);
        }
        int set = 1;
        while (counts[set] < most) {
            set++;
        }
        return set;
    }

    boolean possible(int i, int v) {
        return i >= 0 && i <= 7 && v >= 0 && v <= 255 && canBe(messages(1023), 1 << i, v);
    }

    boolean enough(int set) {
        return java.util.Arrays.equals(knownSets(messages(set)), knownSets(messages(1023)));
    }

    private static void due(int run, int call, String text, long got, long want) {
        if (got != want) {
            wrong++;
            System.out.println("run " + run + ", call " + call + ": " + text + " answered " + got + ", due is " + want);
        }
    }

    private static int one(boolean yes) {
        return yes ? 1 : 0;
    }

    /** Mostly a number in 0 .. bound - 1, now and then one just or far outside. */
    private static int argument(int bound) {
        int kind = pick(40);
        if (kind == 0) {
            return -1 - pick(3);
        }
        if (kind == 1) {
            return bound + pick(3);
        }
        if (kind == 2) {
            return pick(2) == 0 ? Integer.MIN_VALUE + pick(bound) : Integer.MAX_VALUE - pick(bound);
        }
        return pick(bound);
    }

    /** Few pieces make drops that hang together; many make a whole message. */
    private static int someSet(int width) {
        int set = argument(256);
        return set > 0 && set < 256 ? set & (1 << width) - 1 : set;
    }

    private static int trueValue(int[] message, int set) {
        int value = 0;
        for (int i = 0; i < 8; i++) {
            value ^= (set >> i & 1) != 0 ? message[i] : 0;
        }
        return value;
    }

    private static void change(int run, int call, FountainDesk x, ModelTest m, int[] message, int width) {
        if (pick(5) < 2) {
            int k = argument(10);
            due(run, call, "drop(" + k + ")", one(x.drop(k)), one(m.drop(k)));
            return;
        }
        int set = someSet(width);
        int value = pick(6) == 0 ? argument(256) : trueValue(message, set);
        due(run, call, "take(" + set + ", " + value + ")", x.take(set, value), m.take(set, value));
    }

    private static void ask(int run, int call, FountainDesk x, ModelTest m, int[] message, int width) {
        int set = someSet(width);
        int i = argument(8);
        int k = argument(10);
        int some = pick(8) == 0 ? argument(1024) : m.kept & ~(1 << pick(10)) | pick(4) << 10;
        int v = i >= 0 && i < 8 && pick(2) == 0 ? message[i] : argument(256);
        switch (pick(40) == 0 ? 11 : pick(11)) {
            case 0 -> due(run, call, "drops()", x.drops(), m.kept);
            case 1 -> due(run, call, "known()", x.known(), m.known());
            case 2 -> due(run, call, "piece(" + i + ")", x.piece(i), m.piece(i));
            case 3 -> due(run, call, "sum(" + set + ")", x.sum(set), m.sum(set));
            case 4 -> due(run, call, "missing()", x.missing(), m.missing());
            case 5 -> due(run, call, "idle(" + k + ")", one(x.idle(k)), one(m.idle(k)));
            case 6 -> due(run, call, "knownSums()", x.knownSums(), m.knownSums());
            case 7 -> due(run, call, "knownWith(" + set + ")", x.knownWith(set), m.knownWith(set));
            case 8 -> due(run, call, "possible(" + i + ", " + v + ")", one(x.possible(i, v)), one(m.possible(i, v)));
            case 9, 10 -> due(run, call, "enough(" + some + ")", one(x.enough(some)), one(m.enough(some)));
            default -> due(run, call, "bestSet()", x.bestSet(), m.bestSet());
        }
    }

    public static void main(String[] args) {
        for (int run = 1; run <= RUNS; run++) {
            seed = run;
            FountainDesk x = new FountainDesk();
            ModelTest m = new ModelTest();
            int[] message = new int[8];
            for (int i = 0; i < 8; i++) {
                message[i] = pick(256);
            }
            int width = 2 + run % 7;
            for (int call = 1; call <= CALLS && wrong < 20; call++) {
                if (pick(3) == 0) {
                    change(run, call, x, m, message, width);
                } else {
                    ask(run, call, x, m, message, width);
                }
            }
        }
        System.out.println(wrong == 0 ? "all answers are as due" : wrong + " answers are not as due");
        if (wrong != 0) {
            System.exit(1);
        }
    }
}
