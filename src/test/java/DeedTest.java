/**
 * Some promises tell what would be if a drop more were taken or one were thrown
 * away. Here it is done, on a second object in the same state, and the answers
 * are held against each other.
 */
public final class DeedTest {
    private static final int NONE = -1;
    private static final int REFUSED = -3;
    private static final int STATES = 120;

    private static int wrong = 0;

    private static void due(int state, String call, Object got, Object want) {
        if (!got.equals(want)) {
            wrong++;
            System.out.println("state " + state + ": " + call + " answered " + got + ", due is " + want);
        }
    }

    private static int trueSum(int set) {
        int sum = 0;
        for (int i = 0; i < 8; i++) {
            sum ^= (set >> i & 1) != 0 ? 250 - 29 * i : 0;
        }
        return sum;
    }

    /** Always the same for a number, with number % 11 drops over the first 2 to 8 pieces. */
    private static FountainDesk state(int number) {
        FountainDesk x = new FountainDesk();
        int pieces = 2 + number % 7;
        long seed = number;
        for (int k = 0; k < number % 11; k++) {
            seed = seed * 6364136223846793005L + 1442695040888963407L;
            int set = 1 + (int) ((seed >>> 33) % ((1 << pieces) - 1));
            x.take(set, trueSum(set));
        }
        return x;
    }

    private static FountainDesk withOneMore(int number, int set) {
        FountainDesk x = state(number);
        int sum = x.sum(set);
        x.take(set, sum == NONE ? 200 : sum);
        return x;
    }

    private static FountainDesk withOneLess(int number, int k) {
        FountainDesk x = state(number);
        x.drop(k);
        return x;
    }

    private static boolean hasRoom(int number) {
        return state(number).drops() != 1023;
    }

    private static int countKnownSums(FountainDesk x) {
        int count = 0;
        for (int set = 1; set <= 255; set++) {
            count += x.sum(set) != NONE ? 1 : 0;
        }
        return count;
    }

    private static boolean knowsTheSame(FountainDesk x, FountainDesk y) {
        for (int set = 0; set <= 255; set++) {
            if (x.sum(set) != y.sum(set)) {
                return false;
            }
        }
        return true;
    }

    private static void missingByTaking(int number) {
        int missing = state(number).missing();
        due(number, "missing() == 0", missing == 0, state(number).known() == 255);
        int least = 8;
        for (int set = 1; set <= 255; set++) {
            least = Math.min(least, withOneMore(number, set).missing());
        }
        due(number, "missing() after the best drop", least, Math.max(missing - 1, 0));
    }

    private static void knownWithByTaking(int number) {
        FountainDesk x = state(number);
        for (int set = 1; set <= 255; set++) {
            int known = withOneMore(number, set).known();
            due(number, "knownWith(" + set + ")", x.knownWith(set), Integer.bitCount(known));
        }
    }

    private static void possibleByTaking(int number) {
        for (int i = 0; i < 8; i++) {
            FountainDesk x = state(number);
            for (int v = 0; v <= 255; v++) {
                boolean agrees = state(number).take(1 << i, v) != REFUSED;
                due(number, "possible(" + i + ", " + v + ")", x.possible(i, v), agrees);
            }
        }
    }

    private static void idleByThrowingAway(int number) {
        FountainDesk x = state(number);
        for (int k = 0; k < 10; k++) {
            boolean kept = (x.drops() >> k & 1) != 0;
            boolean idle = kept && knowsTheSame(state(number), withOneLess(number, k));
            due(number, "idle(" + k + ")", x.idle(k), idle);
        }
    }

    private static void enoughByThrowingAway(int number) {
        for (int set = 0; set < 1024; set += 1 + number % 50) {
            FountainDesk some = state(number);
            for (int k = 0; k < 10; k++) {
                if ((set >> k & 1) == 0) {
                    some.drop(k);
                }
            }
            due(number, "enough(" + set + ")", state(number).enough(set), knowsTheSame(state(number), some));
        }
    }

    private static void countsByAsking(int number) {
        FountainDesk x = state(number);
        int known = 0;
        for (int i = 0; i < 8; i++) {
            known |= x.piece(i) != NONE ? 1 << i : 0;
            due(number, "piece(" + i + ")", x.piece(i), x.sum(1 << i));
        }
        due(number, "known()", x.known(), known);
        due(number, "knownSums()", x.knownSums(), countKnownSums(state(number)));
    }

    private static void bestSetByAsking(int number) {
        FountainDesk x = state(number);
        int best = 1;
        for (int set = 2; set <= 255; set++) {
            if (x.knownWith(set) > state(number).knownWith(best)) {
                best = set;
            }
        }
        due(number, "bestSet()", x.bestSet(), best);
    }

    public static void main(String[] args) {
        for (int number = 0; number < STATES; number++) {
            if (hasRoom(number)) {
                missingByTaking(number);
                knownWithByTaking(number);
                possibleByTaking(number);
            }
            idleByThrowingAway(number);
            enoughByThrowingAway(number);
            countsByAsking(number);
            bestSetByAsking(number);
        }
        System.out.println(wrong == 0 ? "all answers are as due" : wrong + " answers are not as due");
        if (wrong != 0) {
            System.exit(1);
        }
    }
}
