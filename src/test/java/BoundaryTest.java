import java.util.ArrayList;
import java.util.LinkedHashMap;
import java.util.List;
import java.util.Map;
import java.util.function.Function;
import java.util.function.Supplier;

/**
 * The boundary cases of the document, a test for each sentence that names one.
 * A test is named by its promise and the sentence's words. No object is used
 * for more than 512 calls.
 */
public final class BoundaryTest {
    private static final int NONE = -1;
    private static final int FULL = -2;
    private static final int REFUSED = -3;
    private static final int LEAST = Integer.MIN_VALUE;
    private static final int GREATEST = Integer.MAX_VALUE;

    // Beside the numbers just outside, these hold numbers that would look right
    // after a shift or a mask: 33 and -31 as shifts are 1, (1 << 24) + 1 loses
    // its high bit when shifted by 8.
    private static final int[] NOT_0_TO_255 = {
        LEAST, LEAST + 1, LEAST + 255, -65536, -257, -256, -255, -2, -1,
        256, 257, 258, 511, 512, 65535, 65536, 65537, 1 << 24, (1 << 24) + 1, GREATEST - 1, GREATEST};
    private static final int[] NOT_0_TO_7 = {
        LEAST, LEAST + 1, LEAST + 7, -256, -32, -31, -25, -8, -7, -2, -1,
        8, 9, 10, 15, 16, 24, 31, 32, 33, 39, 64, 255, 256, GREATEST - 1, GREATEST};
    private static final int[] NOT_0_TO_9 = {
        LEAST, LEAST + 1, LEAST + 9, -1024, -32, -31, -23, -10, -9, -2, -1,
        10, 11, 15, 16, 31, 32, 33, 41, 64, 1023, 1024, GREATEST - 1, GREATEST};

    private static final Map<String, Runnable> TESTS = new LinkedHashMap<>();
    private static String test = "";
    private static int wrong = 0;

    private static void report(String text) {
        wrong++;
        System.out.println(test + ": " + text);
    }

    private static void due(String call, int got, int want) {
        if (got != want) {
            report(call + " answered " + got + ", due is " + want);
        }
    }

    private static void due(String call, boolean got, boolean want) {
        if (got != want) {
            report(call + " answered " + got + ", due is " + want);
        }
    }

    // States

    private static FountainDesk none() {
        return new FountainDesk();
    }

    /** Piece i alone, known to be value. */
    private static FountainDesk only(int i, int value) {
        FountainDesk x = new FountainDesk();
        x.take(1 << i, value);
        return x;
    }

    /** Piece 0 is 10, 0 and 1 are 7 (so 1 is 13), 2 and 3 are 20, 0 and 1 again. */
    private static FountainDesk four() {
        FountainDesk x = new FountainDesk();
        x.take(1, 10);
        x.take(3, 7);
        x.take(12, 20);
        x.take(3, 7);
        return x;
    }

    private static FountainDesk tenTimes(int set, int value) {
        FountainDesk x = new FountainDesk();
        for (int k = 0; k < 10; k++) {
            x.take(set, value);
        }
        return x;
    }

    private static FountainDesk tenAlike() {
        return tenTimes(255, 77);
    }

    private static FountainDesk nineAlike() {
        FountainDesk x = tenAlike();
        x.drop(4);
        return x;
    }

    /** Nine alike, and drop k, which says that piece 0 is 3. */
    private static FountainDesk tenWithOneOther(int k) {
        FountainDesk x = tenAlike();
        x.drop(k);
        x.take(1, 3);
        return x;
    }

    /** Ten pairs: 0-1, 1-2 .. 6-7, and 0-2, 1-3, 0-7. No piece is known. */
    private static FountainDesk tenPairs() {
        FountainDesk x = new FountainDesk();
        for (int i = 0; i < 7; i++) {
            x.take(3 << i, i + 1);
        }
        x.take(5, 1 ^ 2);
        x.take(10, 2 ^ 3);
        x.take(129, 1 ^ 2 ^ 3 ^ 4 ^ 5 ^ 6 ^ 7);
        return x;
    }

    private static int wholePiece(int i) {
        return 255 - i;
    }

    private static int wholeSum(int set) {
        int sum = 0;
        for (int i = 0; i < 8; i++) {
            if ((set >> i & 1) != 0) {
                sum ^= wholePiece(i);
            }
        }
        return sum;
    }

    /** The first count pieces, each by a drop of its own. */
    private static FountainDesk firstPieces(int count) {
        FountainDesk x = new FountainDesk();
        for (int i = 0; i < count; i++) {
            x.take(1 << i, wholePiece(i));
        }
        return x;
    }

    private static FountainDesk whole() {
        return firstPieces(8);
    }

    /** The whole message, and two drops that say nothing new. */
    private static FountainDesk wholeOfTen() {
        FountainDesk x = whole();
        x.take(255, wholeSum(255));
        x.take(15, wholeSum(15));
        return x;
    }

    // Promise 1

    private static void newHasNoDrops() {
        FountainDesk x = none();
        due("drops()", x.drops(), 0);
        for (int k = 0; k < 10; k++) {
            due("idle(" + k + ")", x.idle(k), false);
            due("drop(" + k + ")", x.drop(k), false);
        }
        due("take(255, 255)", x.take(255, 255), 0);
    }

    private static void newKnowsNothing() {
        FountainDesk x = none();
        due("known()", x.known(), 0);
        due("missing()", x.missing(), 8);
        due("knownSums()", x.knownSums(), 0);
        due("bestSet()", x.bestSet(), 1);
        for (int i = 0; i < 8; i++) {
            due("piece(" + i + ")", x.piece(i), NONE);
        }
        for (int set = 1; set <= 255; set++) {
            due("sum(" + set + ")", x.sum(set), NONE);
        }
    }

    private static void objectsShareNothing() {
        FountainDesk x = none();
        FountainDesk y = none();
        due("x.take(1, 1)", x.take(1, 1), 0);
        due("y.drops()", y.drops(), 0);
        due("y.take(1, 2)", y.take(1, 2), 0);
        due("x.piece(0)", x.piece(0), 1);
        due("y.drop(0)", y.drop(0), true);
        due("x.drops()", x.drops(), 1);
    }

    // Promise 2

    private static void takeWrongSet() {
        for (Supplier<FountainDesk> state : List.<Supplier<FountainDesk>>of(BoundaryTest::none, BoundaryTest::four)) {
            FountainDesk x = state.get();
            due("take(0, 0)", x.take(0, 0), NONE);
            due("take(0, 255)", x.take(0, 255), NONE);
            for (int set : NOT_0_TO_255) {
                due("take(" + set + ", 0)", x.take(set, 0), NONE);
                due("take(" + set + ", 255)", x.take(set, 255), NONE);
            }
        }
    }

    private static void takeEverySet() {
        for (int set = 1; set <= 255; set++) {
            FountainDesk x = none();
            due("take(" + set + ", 170)", x.take(set, 170), 0);
            due("sum(" + set + ")", x.sum(set), 170);
        }
    }

    private static void takeWrongValue() {
        FountainDesk x = none();
        FountainDesk y = four();
        for (int value : NOT_0_TO_255) {
            due("take(1, " + value + ")", x.take(1, value), NONE);
            due("take(255, " + value + ")", x.take(255, value), NONE);
            due("take(1, " + value + ") of four", y.take(1, value), NONE);
        }
    }

    private static void takeEveryValue() {
        for (int value = 0; value <= 255; value++) {
            FountainDesk x = none();
            due("take(128, " + value + ")", x.take(128, value), 0);
            due("sum(128) of " + value, x.sum(128), value);
        }
    }

    private static void takeWrongSetAndValue() {
        for (int set : NOT_0_TO_255) {
            FountainDesk x = none();
            for (int value : NOT_0_TO_255) {
                due("take(" + set + ", " + value + ")", x.take(set, value), NONE);
            }
            due("take(0, " + set + ")", x.take(0, set), NONE);
            due("take(1, 0) after", x.take(1, 0), 0);
        }
    }

    private static void takeTenthAndEleventh() {
        FountainDesk x = none();
        for (int k = 0; k < 10; k++) {
            due("take(7, 9), kept " + k, x.take(7, 9), k);
        }
        due("take(7, 9), kept 10", x.take(7, 9), FULL);
        due("take(8, 9), kept 10", x.take(8, 9), FULL);
        x.drop(9);
        due("take(8, 9), nine again", x.take(8, 9), 9);
        due("take(16, 9), ten again", x.take(16, 9), FULL);
    }

    private static void takeFullCountsDropsNotPieces() {
        due("take(1, 255), the whole in eight", whole().take(1, 255), 8);
        due("take(1, 255), the whole in ten", wholeOfTen().take(1, 255), FULL);
        due("take(1, 0), nothing known in ten", tenAlike().take(1, 0), FULL);
    }

    private static void takeRefusedByOneBit() {
        for (int bit = 0; bit < 8; bit++) {
            int other = 77 ^ 1 << bit;
            FountainDesk x = only(7, 77);
            due("take(128, " + other + ") after take(128, 77)", x.take(128, other), REFUSED);
            due("take(255, " + other + ") of nine", nineAlike().take(255, other), REFUSED);
        }
    }

    private static void takeRefusedForEverySetOfTheWhole() {
        for (int set = 1; set <= 255; set++) {
            FountainDesk x = whole();
            int value = wholeSum(set);
            due("take(" + set + ", " + (value ^ 1) + ")", x.take(set, value ^ 1), REFUSED);
            due("take(" + set + ", " + (value ^ 128) + ")", x.take(set, value ^ 128), REFUSED);
            due("take(" + set + ", " + value + ")", x.take(set, value), 8);
        }
    }

    private static void takeRefusedByAllTogether() {
        FountainDesk x = none();
        x.take(3, 1);
        x.take(6, 2);
        due("take(5, 0)", x.take(5, 0), REFUSED);
        due("take(5, 2)", x.take(5, 2), REFUSED);
        due("take(5, 3)", x.take(5, 3), 2);
        // All pairs of drops agree here; it is the nine of them that don't.
        FountainDesk y = tenPairs();
        y.drop(9);
        due("take(129, 1)", y.take(129, 1), REFUSED);
        due("take(129, 0)", y.take(129, 0), 9);
    }

    private static void takeThatSaysNothingNew() {
        FountainDesk x = four();
        due("take(2, 13)", x.take(2, 13), 4);
        due("take(15, 19)", x.take(15, 19), 5);
        due("take(12, 20)", x.take(12, 20), 6);
        due("drops()", x.drops(), 127);
    }

    private static void takeAgainstOneThrownAway() {
        FountainDesk x = only(0, 5);
        due("take(1, 6)", x.take(1, 6), REFUSED);
        x.drop(0);
        due("take(1, 6) after drop(0)", x.take(1, 6), 0);
        due("take(1, 5)", x.take(1, 5), REFUSED);
        FountainDesk y = tenAlike();
        for (int k = 0; k < 9; k++) {
            y.drop(k);
        }
        due("take(255, 78), one of ten left", y.take(255, 78), REFUSED);
        y.drop(9);
        due("take(255, 78), none of ten left", y.take(255, 78), 0);
    }

    private static void takeGetsTheOneFreeNumber() {
        for (int k = 0; k < 10; k++) {
            FountainDesk x = tenAlike();
            x.drop(k);
            due("take(1, 3) after drop(" + k + ")", x.take(1, 3), k);
            due("take(2, 3) after it", x.take(2, 3), FULL);
        }
    }

    private static void takeGetsTheLeastOfTwo() {
        for (int low = 0; low < 9; low++) {
            for (int high = low + 1; high < 10; high++) {
                FountainDesk x = tenAlike();
                x.drop(low);
                x.drop(high);
                due("take(1, 3) without " + low + " and " + high, x.take(1, 3), low);
                due("take(2, 3) without " + high, x.take(2, 3), high);
            }
        }
    }

    private static void takeRefusedUsesNoNumber() {
        FountainDesk x = only(0, 5);
        for (int n = 0; n < 20; n++) {
            due("take(1, 6)", x.take(1, 6), REFUSED);
            due("take(0, 6)", x.take(0, 6), NONE);
        }
        due("take(1, 5)", x.take(1, 5), 1);
    }

    // Promise 3

    private static void dropOfEachNumber() {
        for (int k = 0; k < 10; k++) {
            FountainDesk x = tenAlike();
            due("drop(" + k + ")", x.drop(k), true);
            due("drops() after drop(" + k + ")", x.drops(), 1023 ^ 1 << k);
            due("drop(" + k + ") again", x.drop(k), false);
            due("drops() after it", x.drops(), 1023 ^ 1 << k);
        }
    }

    private static void dropOfWrongNumber() {
        FountainDesk x = tenAlike();
        FountainDesk y = none();
        for (int k : NOT_0_TO_9) {
            due("drop(" + k + ") of ten", x.drop(k), false);
            due("drop(" + k + ") of none", y.drop(k), false);
        }
        due("drops() of ten", x.drops(), 1023);
    }

    private static void dropOfNumberNotGiven() {
        FountainDesk x = four();
        for (int k = 4; k < 10; k++) {
            due("drop(" + k + ")", x.drop(k), false);
        }
        due("drops()", x.drops(), 15);
    }

    private static void dropOfAll() {
        FountainDesk x = wholeOfTen();
        for (int k = 9; k >= 0; k--) {
            due("drop(" + k + ")", x.drop(k), true);
        }
        due("drops()", x.drops(), 0);
        due("known()", x.known(), 0);
        due("missing()", x.missing(), 8);
        due("knownSums()", x.knownSums(), 0);
        due("take(1, 0)", x.take(1, 0), 0);
    }

    private static void dropTakesBackWhatItSaid() {
        FountainDesk x = four();
        x.drop(0);
        due("known() without the only word on piece 0", x.known(), 0);
        due("sum(3), still said", x.sum(3), 7);
        x.drop(1);
        due("sum(3), said once", x.sum(3), 7);
        x.drop(3);
        due("sum(3), said no more", x.sum(3), NONE);
    }

    // Promise 4

    private static void dropsBits() {
        FountainDesk x = none();
        due("drops() of none", x.drops(), 0);
        for (int k = 0; k < 10; k++) {
            x.take(255, 77);
            due("drops() with 0 .. " + k, x.drops(), (2 << k) - 1);
        }
        x.take(255, 77);
        due("drops() after FULL", x.drops(), 1023);
        for (int k = 0; k < 10; k++) {
            x.drop(k);
            due("drops() without 0 .. " + k, x.drops(), 1023 & -(2 << k));
        }
    }

    // Promise 5

    private static void knownOnePiece() {
        for (int i = 0; i < 8; i++) {
            due("known() of piece " + i + ", which is 0", only(i, 0).known(), 1 << i);
            due("known() of piece " + i + ", which is 255", only(i, 255).known(), 1 << i);
        }
    }

    private static void knownOfNoneAndAll() {
        due("known() of none", none().known(), 0);
        due("known() of the whole", whole().known(), 255);
        due("known() of the whole in ten", wholeOfTen().known(), 255);
        FountainDesk x = whole();
        x.drop(7);
        due("known() of all but 7", x.known(), 127);
        x.drop(0);
        due("known() of all but 0 and 7", x.known(), 126);
    }

    private static void knownOfTenThatTellNoPiece() {
        due("known() of ten alike", tenAlike().known(), 0);
        FountainDesk x = tenPairs();
        due("known() of ten pairs", x.known(), 0);
        x.drop(8);
        x.take(16, 0);
        due("known() of pairs and one piece", x.known(), 255);
    }

    // Promise 6

    private static void pieceWrongNumber() {
        FountainDesk x = whole();
        FountainDesk y = none();
        for (int i : NOT_0_TO_7) {
            due("piece(" + i + ") of the whole", x.piece(i), NONE);
            due("piece(" + i + ") of none", y.piece(i), NONE);
        }
    }

    private static void pieceOfEachNumber() {
        FountainDesk x = whole();
        for (int i = 0; i < 8; i++) {
            due("piece(" + i + ")", x.piece(i), 255 - i);
        }
    }

    private static void pieceNotKnown() {
        FountainDesk x = four();
        for (int i = 2; i < 8; i++) {
            due("piece(" + i + ")", x.piece(i), NONE);
        }
        FountainDesk y = whole();
        for (int i = 0; i < 8; i++) {
            y.drop(i);
            due("piece(" + i + ") after drop(" + i + ")", y.piece(i), NONE);
        }
    }

    private static void pieceOfLeastAndGreatestValue() {
        for (int i = 0; i < 8; i++) {
            due("piece(" + i + ") of 0", only(i, 0).piece(i), 0);
            due("piece(" + i + ") of 255", only(i, 255).piece(i), 255);
        }
    }

    // Promise 7

    private static void sumOfEmptySet() {
        due("sum(0) of none", none().sum(0), 0);
        due("sum(0) of four", four().sum(0), 0);
        due("sum(0) of ten alike", tenAlike().sum(0), 0);
        due("sum(0) of the whole", whole().sum(0), 0);
    }

    private static void sumWrongSet() {
        FountainDesk x = whole();
        FountainDesk y = none();
        for (int set : NOT_0_TO_255) {
            due("sum(" + set + ") of the whole", x.sum(set), NONE);
            due("sum(" + set + ") of none", y.sum(set), NONE);
        }
    }

    private static void sumOfEverySet() {
        FountainDesk x = whole();
        for (int set = 0; set <= 255; set++) {
            due("sum(" + set + ")", x.sum(set), wholeSum(set));
        }
    }

    private static void sumNotKnown() {
        FountainDesk x = only(0, 9);
        for (int set = 2; set <= 255; set++) {
            due("sum(" + set + ")", x.sum(set), NONE);
        }
        FountainDesk y = whole();
        y.drop(7);
        due("sum(127), all but 7 known", y.sum(127), wholeSum(127));
        due("sum(128), all but 7 known", y.sum(128), NONE);
        due("sum(255), all but 7 known", y.sum(255), NONE);
    }

    private static void sumKnownWithoutItsPieces() {
        FountainDesk x = tenPairs();
        due("sum(255)", x.sum(255), 1 ^ 3 ^ 5 ^ 7);
        due("sum(129)", x.sum(129), 0);
        due("sum(127)", x.sum(127), NONE);
        due("sum(1)", x.sum(1), NONE);
        due("sum(255) of ten alike", tenAlike().sum(255), 77);
    }

    // Promise 8

    private static void missingOfNoneAndAll() {
        for (int count = 0; count <= 8; count++) {
            due("missing() of " + count + " pieces", firstPieces(count).missing(), 8 - count);
        }
        due("missing() of the whole in ten", wholeOfTen().missing(), 0);
    }

    private static void missingCountsNothingTwice() {
        due("missing() of ten alike", tenAlike().missing(), 7);
        due("missing() of ten pairs", tenPairs().missing(), 1);
        FountainDesk x = none();
        x.take(3, 1);
        x.take(6, 2);
        x.take(5, 3);
        due("missing() of a circle", x.missing(), 6);
    }

    private static void missingIsReachedAndNotSooner() {
        // Two drops, no piece known, and still six more do.
        int[] sets = {1, 2, 4, 16, 32, 64};
        FountainDesk x = none();
        x.take(15, 1);
        x.take(240, 2);
        for (int n = 0; n < 6; n++) {
            due("missing() after " + n, x.missing(), 6 - n);
            due("known() == 255 after " + n, x.known() == 255, false);
            x.take(sets[n], n);
        }
        due("missing() after 6", x.missing(), 0);
        due("known() after 6", x.known(), 255);
    }

    // Promise 9

    private static void idleWrongNumber() {
        FountainDesk x = tenAlike();
        FountainDesk y = none();
        for (int k : NOT_0_TO_9) {
            due("idle(" + k + ") of ten alike", x.idle(k), false);
            due("idle(" + k + ") of none", y.idle(k), false);
        }
    }

    private static void idleOfNumberNotKept() {
        for (int k = 0; k < 10; k++) {
            FountainDesk x = tenAlike();
            x.drop(k);
            due("idle(" + k + ") after drop(" + k + ")", x.idle(k), false);
            due("idle(" + (k + 1) % 10 + ") after drop(" + k + ")", x.idle((k + 1) % 10), true);
        }
        FountainDesk y = four();
        for (int k = 4; k < 10; k++) {
            due("idle(" + k + ") of four", y.idle(k), false);
        }
    }

    private static void idleOfTheOnlyDrop() {
        due("idle(0)", only(3, 0).idle(0), false);
        FountainDesk x = tenAlike();
        for (int k = 0; k < 8; k++) {
            x.drop(k);
        }
        due("idle(9) of two", x.idle(9), true);
        x.drop(8);
        due("idle(9) of one", x.idle(9), false);
    }

    private static void idleOfEachOfTen() {
        FountainDesk alike = tenAlike();
        FountainDesk pairs = tenPairs();
        FountainDesk all = wholeOfTen();
        for (int k = 0; k < 10; k++) {
            due("idle(" + k + ") of ten alike", alike.idle(k), true);
            due("idle(" + k + ") of ten pairs", pairs.idle(k), true);
            due("idle(" + k + ") of the whole in ten", all.idle(k), true);
        }
    }

    private static void idleOfEachOfTheWhole() {
        FountainDesk x = whole();
        for (int k = 0; k < 8; k++) {
            due("idle(" + k + ")", x.idle(k), false);
        }
    }

    private static void idleCountsSumsAsKnown() {
        // No piece is known with or without drop 1; the sum of 6 is.
        FountainDesk x = none();
        x.take(3, 1);
        x.take(6, 2);
        due("idle(0)", x.idle(0), false);
        due("idle(1)", x.idle(1), false);
        x.take(5, 3);
        due("idle(0) with the third side", x.idle(0), true);
        due("idle(1) with the third side", x.idle(1), true);
        due("idle(2), a sum that no piece tells", four().idle(2), false);
    }

    // Promise 10

    private static void knownSumsOfNoneToAll() {
        int[] counts = {0, 1, 3, 7, 15, 31, 63, 127, 255};
        for (int count = 0; count <= 8; count++) {
            due("knownSums() of " + count + " pieces", firstPieces(count).knownSums(), counts[count]);
        }
        due("knownSums() of the whole in ten", wholeOfTen().knownSums(), 255);
    }

    private static void knownSumsCountsNothingTwice() {
        due("knownSums() of ten alike", tenAlike().knownSums(), 1);
        due("knownSums() of ten pairs", tenPairs().knownSums(), 127);
        due("knownSums() of four", four().knownSums(), 7);
    }

    // Promise 11

    private static void knownWithWrongSet() {
        FountainDesk x = whole();
        FountainDesk y = none();
        due("knownWith(0) of the whole", x.knownWith(0), NONE);
        due("knownWith(0) of none", y.knownWith(0), NONE);
        for (int set : NOT_0_TO_255) {
            due("knownWith(" + set + ") of the whole", x.knownWith(set), NONE);
            due("knownWith(" + set + ") of none", y.knownWith(set), NONE);
        }
    }

    private static void knownWithEverySetOfNone() {
        FountainDesk x = none();
        for (int set = 1; set <= 255; set++) {
            due("knownWith(" + set + ")", x.knownWith(set), Integer.bitCount(set) == 1 ? 1 : 0);
        }
    }

    private static void knownWithEverySetOfTheWhole() {
        FountainDesk x = whole();
        for (int set = 1; set <= 255; set++) {
            due("knownWith(" + set + ")", x.knownWith(set), 8);
        }
    }

    private static void knownWithWhenTenAreKept() {
        FountainDesk x = tenPairs();
        for (int set = 1; set <= 255; set++) {
            due("knownWith(" + set + ") of ten pairs", x.knownWith(set), Integer.bitCount(set) % 2 == 1 ? 8 : 0);
        }
        FountainDesk y = tenAlike();
        due("knownWith(1) of ten alike", y.knownWith(1), 1);
        due("knownWith(127) of ten alike", y.knownWith(127), 1);
        due("knownWith(255) of ten alike", y.knownWith(255), 0);
        due("knownWith(255) of the whole in ten", wholeOfTen().knownWith(255), 8);
    }

    private static void knownWithAValueThatAgrees() {
        // Values other than 0 are due here; the set's own value is not asked.
        FountainDesk x = four();
        due("knownWith(1)", x.knownWith(1), 2);
        due("knownWith(15)", x.knownWith(15), 2);
        due("knownWith(8)", x.knownWith(8), 4);
        due("knownWith(11)", x.knownWith(11), 4);
    }

    private static void knownWithTakesNothing() {
        FountainDesk x = none();
        due("knownWith(1)", x.knownWith(1), 1);
        due("knownWith(2)", x.knownWith(2), 1);
        due("knownWith(3)", x.knownWith(3), 0);
        due("drops()", x.drops(), 0);
        due("known()", x.known(), 0);
        due("take(1, 200)", x.take(1, 200), 0);
    }

    // Promise 12

    private static void bestSetIsTheLeast() {
        due("bestSet() of none", none().bestSet(), 1);
        due("bestSet() of the whole", whole().bestSet(), 1);
        due("bestSet() of the whole in ten", wholeOfTen().bestSet(), 1);
        due("bestSet() of ten alike", tenAlike().bestSet(), 1);
        due("bestSet() of ten pairs", tenPairs().bestSet(), 1);
    }

    private static void bestSetOfEachPiece() {
        for (int count = 0; count < 8; count++) {
            due("bestSet() with " + count + " pieces", firstPieces(count).bestSet(), 1 << count);
        }
        for (int i = 0; i < 8; i++) {
            FountainDesk x = whole();
            x.drop(i);
            due("bestSet() without piece " + i, x.bestSet(), 1 << i);
        }
    }

    private static void bestSetIsTheGreatestCount() {
        FountainDesk x = none();
        x.take(192, 5);
        due("bestSet(), two for one at the end", x.bestSet(), 64);
        x.take(3, 5);
        due("bestSet(), two for one twice", x.bestSet(), 1);
        x.take(96, 5);
        due("bestSet(), three for one", x.bestSet(), 32);
    }

    private static void bestSetThatIsNoPiece() {
        // 3 tells the pieces 4 and 5; 1 and 2 tell only themselves.
        FountainDesk x = none();
        x.take(13, 1);
        x.take(19, 2);
        x.take(35, 3);
        due("bestSet()", x.bestSet(), 3);
        due("knownWith(3)", x.knownWith(3), 2);
        due("knownWith(2)", x.knownWith(2), 1);
    }

    // Promise 13

    private static void possibleWrongPiece() {
        FountainDesk x = none();
        FountainDesk y = whole();
        for (int i : NOT_0_TO_7) {
            due("possible(" + i + ", 0) of none", x.possible(i, 0), false);
            due("possible(" + i + ", 255) of none", x.possible(i, 255), false);
            due("possible(" + i + ", 255) of the whole", y.possible(i, 255), false);
            due("possible(" + i + ", -1) of none", x.possible(i, -1), false);
        }
    }

    private static void possibleWrongValue() {
        FountainDesk x = none();
        FountainDesk zero = only(0, 0);
        FountainDesk most = only(0, 255);
        for (int v : NOT_0_TO_255) {
            due("possible(0, " + v + ") of none", x.possible(0, v), false);
            due("possible(7, " + v + ") of none", x.possible(7, v), false);
            due("possible(0, " + v + ") of 0", zero.possible(0, v), false);
            due("possible(0, " + v + ") of 255", most.possible(0, v), false);
        }
    }

    private static void possibleEveryValueOfAFreePiece() {
        for (int i = 0; i < 8; i++) {
            FountainDesk x = none();
            FountainDesk pairs = tenPairs();
            for (int v = 0; v <= 255; v++) {
                due("possible(" + i + ", " + v + ") of none", x.possible(i, v), true);
                due("possible(" + i + ", " + v + ") of ten pairs", pairs.possible(i, v), true);
            }
        }
    }

    private static void possibleOneValueOfAKnownPiece() {
        for (int i = 0; i < 8; i++) {
            FountainDesk x = whole();
            for (int v = 0; v <= 255; v++) {
                due("possible(" + i + ", " + v + ")", x.possible(i, v), v == 255 - i);
            }
        }
        due("possible(7, 0) of 0", only(7, 0).possible(7, 0), true);
        due("possible(7, 1) of 0", only(7, 0).possible(7, 1), false);
    }

    // Promise 14

    private static void enoughOfNone() {
        FountainDesk x = none();
        for (int set : new int[] {0, 1, 512, 1023, 1024, -1, LEAST, GREATEST}) {
            due("enough(" + set + ")", x.enough(set), true);
        }
        FountainDesk y = four();
        for (int k = 0; k < 4; k++) {
            y.drop(k);
        }
        due("enough(0), all thrown away", y.enough(0), true);
    }

    private static void enoughOfEmptyAndWholeSet() {
        List<Supplier<FountainDesk>> states = List.of(
            BoundaryTest::four, BoundaryTest::tenAlike, BoundaryTest::tenPairs,
            BoundaryTest::whole, BoundaryTest::wholeOfTen);
        for (Supplier<FountainDesk> state : states) {
            FountainDesk x = state.get();
            due("enough(0)", x.enough(0), false);
            due("enough(1023)", x.enough(1023), true);
            due("enough(" + x.drops() + ")", x.enough(x.drops()), true);
        }
    }

    private static void enoughWithBitsOfNoDrop() {
        FountainDesk x = four();
        for (int bit = 4; bit < 32; bit++) {
            due("enough(5 and bit " + bit + ")", x.enough(5 | 1 << bit), false);
            due("enough(7 and bit " + bit + ")", x.enough(7 | 1 << bit), true);
            due("enough(bit " + bit + ")", x.enough(1 << bit), false);
        }
        due("enough(-1)", x.enough(-1), true);
        due("enough(-2)", x.enough(-2), false);
        due("enough(-3)", x.enough(-3), true);
        due("enough(GREATEST)", x.enough(GREATEST), true);
        due("enough(LEAST)", x.enough(LEAST), false);
        due("enough(LEAST + 7)", x.enough(LEAST + 7), true);
    }

    private static void enoughWithOneThrownAway() {
        FountainDesk x = four();
        due("enough(7)", x.enough(7), true);
        x.drop(1);
        due("enough(7) without 1", x.enough(7), false);
        due("enough(13) without 1", x.enough(13), true);
        x.drop(3);
        due("enough(7) without 1 and 3", x.enough(7), true);
        due("enough(5) without 1 and 3", x.enough(5), true);
        x.drop(2);
        due("enough(1), alone", x.enough(1), true);
        due("enough(14), all thrown away but 0", x.enough(14), false);
    }

    private static void enoughOfOneInTen() {
        FountainDesk x = tenAlike();
        for (int k = 0; k < 10; k++) {
            due("enough(" + (1 << k) + ")", x.enough(1 << k), true);
        }
        due("enough(1024)", x.enough(1024), false);
    }

    private static void enoughJustAndJustNot() {
        FountainDesk pairs = tenPairs();
        due("enough(127), seven in a row", pairs.enough(127), true);
        due("enough(63), six in a row", pairs.enough(63), false);
        due("enough(638), the row without its first and the way round", pairs.enough(638), true);
        due("enough(902), 1, 2 and the three last", pairs.enough(902), false);
        FountainDesk all = wholeOfTen();
        due("enough(255), the pieces", all.enough(255), true);
        due("enough(1023 but 0 and 7)", all.enough(1023 ^ 129), true);
        due("enough(1023 but 0 and 1)", all.enough(1023 ^ 3), false);
        due("enough(1023 but 0, 7 and 8)", all.enough(1023 ^ 385), false);
    }

    private static void enoughCountsSumsAsKnown() {
        due("enough(11), all the pieces of four", four().enough(11), false);
        FountainDesk x = none();
        x.take(3, 1);
        x.take(6, 2);
        due("enough(1), no piece known at all", x.enough(1), false);
        due("enough(2), no piece known at all", x.enough(2), false);
        due("enough(3), no piece known at all", x.enough(3), true);
    }

    // Promise 15

    private static void noneBeforeFull() {
        FountainDesk x = tenAlike();
        due("take(0, 0)", x.take(0, 0), NONE);
        due("take(1, -1)", x.take(1, -1), NONE);
        due("take(1, 256)", x.take(1, 256), NONE);
        due("take(256, 0)", x.take(256, 0), NONE);
        due("take(-1, 0)", x.take(-1, 0), NONE);
        due("take(LEAST, GREATEST)", x.take(LEAST, GREATEST), NONE);
        due("take(1, 0)", x.take(1, 0), FULL);
    }

    private static void fullBeforeRefused() {
        due("take(255, 78) of ten alike", tenAlike().take(255, 78), FULL);
        due("take(255, 78) of nine alike", nineAlike().take(255, 78), REFUSED);
        due("take(1, 0) of the whole in ten", wholeOfTen().take(1, 0), FULL);
        due("take(1, 0) of the whole", whole().take(1, 0), REFUSED);
    }

    private static void noneBeforeRefused() {
        FountainDesk x = whole();
        due("take(1, -1)", x.take(1, -1), NONE);
        due("take(1, 256)", x.take(1, 256), NONE);
        due("take(257, 0)", x.take(257, 0), NONE);
        due("take(0, 1)", x.take(0, 1), NONE);
        due("take(1, 0)", x.take(1, 0), REFUSED);
    }

    /** Some 380 answers, the later ones with drops thrown away one by one. */
    private static List<Integer> answers(FountainDesk x) {
        List<Integer> all = new ArrayList<>(List.of(
            x.drops(), x.known(), x.missing(), x.knownSums(), x.bestSet()));
        for (int set = 0; set <= 255; set++) {
            all.add(x.sum(set));
        }
        for (int i = 0; i < 8; i++) {
            all.add(x.piece(i));
            all.add(x.knownWith(1 << i));
            all.add(x.possible(i, 0) ? 1 : 0);
        }
        for (int k = 0; k < 10; k++) {
            all.add(x.idle(k) ? 1 : 0);
            all.add(x.enough(1 << k) ? 1 : 0);
        }
        for (int k = 0; k < 10; k++) {
            all.add(x.drop(k) ? 1 : 0);
            all.add(x.known());
            all.add(x.knownSums());
            all.add(x.sum(255));
            all.add(x.sum(15));
            all.add(x.sum(3));
            all.add(x.piece(7));
        }
        for (int k = 0; k < 11; k++) {
            all.add(x.take(1 << k % 8, k % 8));
        }
        return all;
    }

    private static void changesNothing(Supplier<FountainDesk> state, String call, Function<FountainDesk, Integer> refused, int want) {
        FountainDesk x = state.get();
        due(call, refused.apply(x), want);
        if (!answers(x).equals(answers(state.get()))) {
            report(call + " changed something");
        }
    }

    private static Map<String, Supplier<FountainDesk>> states() {
        Map<String, Supplier<FountainDesk>> states = new LinkedHashMap<>();
        states.put("none", BoundaryTest::none);
        states.put("four", BoundaryTest::four);
        states.put("nine alike", BoundaryTest::nineAlike);
        states.put("ten alike", BoundaryTest::tenAlike);
        states.put("ten pairs", BoundaryTest::tenPairs);
        states.put("the whole", BoundaryTest::whole);
        states.put("the whole in ten", BoundaryTest::wholeOfTen);
        return states;
    }

    private static void takeOfWrongNumbersChangesNothing() {
        states().forEach((name, state) -> {
            changesNothing(state, "take(0, 1) of " + name, x -> x.take(0, 1), NONE);
            for (int n : NOT_0_TO_255) {
                changesNothing(state, "take(" + n + ", 1) of " + name, x -> x.take(n, 1), NONE);
                changesNothing(state, "take(16, " + n + ") of " + name, x -> x.take(16, n), NONE);
                changesNothing(state, "take(" + n + ", " + n + ") of " + name, x -> x.take(n, n), NONE);
            }
        });
    }

    private static void takeThatIsFullChangesNothing() {
        for (int set : new int[] {1, 3, 15, 16, 128, 255}) {
            for (int value : new int[] {0, 1, 77, 255}) {
                String call = "take(" + set + ", " + value + ")";
                changesNothing(BoundaryTest::tenAlike, call + " of ten alike", x -> x.take(set, value), FULL);
                changesNothing(BoundaryTest::tenPairs, call + " of ten pairs", x -> x.take(set, value), FULL);
                changesNothing(BoundaryTest::wholeOfTen, call + " of the whole in ten", x -> x.take(set, value), FULL);
            }
        }
    }

    private static void takeThatDoesNotAgreeChangesNothing() {
        changesNothing(BoundaryTest::four, "take(1, 11) of four", x -> x.take(1, 11), REFUSED);
        changesNothing(BoundaryTest::four, "take(2, 0) of four", x -> x.take(2, 0), REFUSED);
        changesNothing(BoundaryTest::four, "take(15, 255) of four", x -> x.take(15, 255), REFUSED);
        changesNothing(BoundaryTest::nineAlike, "take(255, 78) of nine alike", x -> x.take(255, 78), REFUSED);
        for (int set = 1; set <= 255; set++) {
            int sum = set;
            changesNothing(BoundaryTest::whole, "take(" + set + ", wrong) of the whole", x -> x.take(sum, wholeSum(sum) ^ 4), REFUSED);
        }
    }

    private static void dropOfNoneChangesNothing() {
        states().forEach((name, state) -> {
            for (int k : NOT_0_TO_9) {
                changesNothing(state, "drop(" + k + ") of " + name, x -> x.drop(k) ? 1 : 0, 0);
            }
        });
        for (int k = 0; k < 10; k++) {
            int number = k;
            changesNothing(BoundaryTest::none, "drop(" + k + ") of none", x -> x.drop(number) ? 1 : 0, 0);
        }
        for (int k = 4; k < 10; k++) {
            int number = k;
            changesNothing(BoundaryTest::four, "drop(" + k + ") of four", x -> x.drop(number) ? 1 : 0, 0);
        }
        changesNothing(BoundaryTest::nineAlike, "drop(4) of nine alike", x -> x.drop(4) ? 1 : 0, 0);
    }

    private static void wrongQuestionsChangeNothing() {
        states().forEach((name, state) -> {
            for (int n : NOT_0_TO_255) {
                changesNothing(state, "sum(" + n + ") of " + name, x -> x.sum(n), NONE);
                changesNothing(state, "knownWith(" + n + ") of " + name, x -> x.knownWith(n), NONE);
                changesNothing(state, "possible(0, " + n + ") of " + name, x -> x.possible(0, n) ? 1 : 0, 0);
            }
            changesNothing(state, "knownWith(0) of " + name, x -> x.knownWith(0), NONE);
            for (int i : NOT_0_TO_7) {
                changesNothing(state, "piece(" + i + ") of " + name, x -> x.piece(i), NONE);
                changesNothing(state, "possible(" + i + ", 0) of " + name, x -> x.possible(i, 0) ? 1 : 0, 0);
            }
            for (int k : NOT_0_TO_9) {
                changesNothing(state, "idle(" + k + ") of " + name, x -> x.idle(k) ? 1 : 0, 0);
            }
        });
    }

    private static void askingWhatIsNotThereChangesNothing() {
        changesNothing(BoundaryTest::four, "piece(7) of four", x -> x.piece(7), NONE);
        changesNothing(BoundaryTest::four, "sum(255) of four", x -> x.sum(255), NONE);
        changesNothing(BoundaryTest::four, "idle(9) of four", x -> x.idle(9) ? 1 : 0, 0);
        changesNothing(BoundaryTest::nineAlike, "idle(4) of nine alike", x -> x.idle(4) ? 1 : 0, 0);
        changesNothing(BoundaryTest::none, "piece(0) of none", x -> x.piece(0), NONE);
        changesNothing(BoundaryTest::tenPairs, "piece(0) of ten pairs", x -> x.piece(0), NONE);
        changesNothing(BoundaryTest::tenPairs, "sum(127) of ten pairs", x -> x.sum(127), NONE);
    }

    // Terms: all kept drops, with numbers 0 .. 9.

    private static void knownThroughEachOfTen() {
        for (int k = 0; k < 10; k++) {
            FountainDesk x = tenWithOneOther(k);
            due("known(), other is " + k, x.known(), 1);
            due("piece(0), other is " + k, x.piece(0), 3);
            due("sum(1), other is " + k, x.sum(1), 3);
            due("sum(254), other is " + k, x.sum(254), 77 ^ 3);
            due("sum(255), other is " + k, x.sum(255), 77);
            due("possible(0, 3), other is " + k, x.possible(0, 3), true);
            due("possible(0, 2), other is " + k, x.possible(0, 2), false);
        }
    }

    private static void countedThroughEachOfTen() {
        for (int k = 0; k < 10; k++) {
            FountainDesk x = tenWithOneOther(k);
            due("missing(), other is " + k, x.missing(), 6);
            due("knownSums(), other is " + k, x.knownSums(), 3);
            due("knownWith(1), other is " + k, x.knownWith(1), 1);
            due("knownWith(2), other is " + k, x.knownWith(2), 2);
            due("knownWith(255), other is " + k, x.knownWith(255), 1);
            due("bestSet(), other is " + k, x.bestSet(), 2);
        }
    }

    private static void spareAmongEachOfTen() {
        for (int k = 0; k < 10; k++) {
            FountainDesk x = tenWithOneOther(k);
            for (int n = 0; n < 10; n++) {
                due("idle(" + n + "), other is " + k, x.idle(n), n != k);
                due("enough(" + (1 << n) + "), other is " + k, x.enough(1 << n), false);
                due("enough(" + (1 << k | 1 << n) + "), other is " + k, x.enough(1 << k | 1 << n), n != k);
            }
            due("enough(all but " + k + ")", x.enough(1023 ^ 1 << k), false);
        }
    }

    private static void refusedThroughEachOfTen() {
        for (int k = 0; k < 10; k++) {
            FountainDesk x = tenWithOneOther(k);
            int another = (k + 1) % 10;
            x.drop(another);
            due("take(1, 2), other is " + k, x.take(1, 2), REFUSED);
            due("take(254, 77), other is " + k, x.take(254, 77), REFUSED);
            due("take(254, 78), other is " + k, x.take(254, 77 ^ 3), another);
        }
    }

    // What it is: an object is used for at most 512 calls.

    private static void theLastCallsAnswerAsTheFirst() {
        FountainDesk x = none();
        for (int call = 1; call <= 508; call += 2) {
            due("take(9, " + call / 2 + ") as call " + call, x.take(9, call / 2), 0);
            due("drop(0) as call " + (call + 1), x.drop(0), true);
        }
        due("take(9, 255) as call 509", x.take(9, 255), 0);
        due("sum(9) as call 510", x.sum(9), 255);
        due("take(9, 254) as call 511", x.take(9, 254), REFUSED);
        due("drops() as call 512", x.drops(), 1);
    }

    private static void listTests() {
        TESTS.put("1, no drops", BoundaryTest::newHasNoDrops);
        TESTS.put("1, no drops: nothing is known", BoundaryTest::newKnowsNothing);
        TESTS.put("1, no drops: whatever other objects have", BoundaryTest::objectsShareNothing);
        TESTS.put("2, NONE when set is not 1 .. 255", BoundaryTest::takeWrongSet);
        TESTS.put("2, set is 1 .. 255", BoundaryTest::takeEverySet);
        TESTS.put("2, NONE when value is not 0 .. 255", BoundaryTest::takeWrongValue);
        TESTS.put("2, value is 0 .. 255", BoundaryTest::takeEveryValue);
        TESTS.put("2, NONE when set and value are wrong", BoundaryTest::takeWrongSetAndValue);
        TESTS.put("2, FULL when ten are kept", BoundaryTest::takeTenthAndEleventh);
        TESTS.put("2, FULL hangs on the drops alone", BoundaryTest::takeFullCountsDropsNotPieces);
        TESTS.put("2, REFUSED: one bit that does not agree", BoundaryTest::takeRefusedByOneBit);
        TESTS.put("2, REFUSED: every set, all pieces known", BoundaryTest::takeRefusedForEverySetOfTheWhole);
        TESTS.put("2, REFUSED: drops that agree two by two", BoundaryTest::takeRefusedByAllTogether);
        TESTS.put("2, not REFUSED: nothing new", BoundaryTest::takeThatSaysNothingNew);
        TESTS.put("2, not REFUSED: against one thrown away", BoundaryTest::takeAgainstOneThrownAway);
        TESTS.put("2, the only free number", BoundaryTest::takeGetsTheOneFreeNumber);
        TESTS.put("2, the least of two free numbers", BoundaryTest::takeGetsTheLeastOfTwo);
        TESTS.put("2, no number for what is not taken", BoundaryTest::takeRefusedUsesNoNumber);
        TESTS.put("3, true, and false a second time", BoundaryTest::dropOfEachNumber);
        TESTS.put("3, false when there is none: not 0 .. 9", BoundaryTest::dropOfWrongNumber);
        TESTS.put("3, false when there is none: not given", BoundaryTest::dropOfNumberNotGiven);
        TESTS.put("3, thrown away: all", BoundaryTest::dropOfAll);
        TESTS.put("3, thrown away: what it said", BoundaryTest::dropTakesBackWhatItSaid);
        TESTS.put("4, bit k for drop k", BoundaryTest::dropsBits);
        TESTS.put("5, bit i for piece i", BoundaryTest::knownOnePiece);
        TESTS.put("5, no piece and all pieces", BoundaryTest::knownOfNoneAndAll);
        TESTS.put("5, ten drops and no piece", BoundaryTest::knownOfTenThatTellNoPiece);
        TESTS.put("6, NONE when i is not 0 .. 7", BoundaryTest::pieceWrongNumber);
        TESTS.put("6, i is 0 .. 7", BoundaryTest::pieceOfEachNumber);
        TESTS.put("6, NONE when it is not known", BoundaryTest::pieceNotKnown);
        TESTS.put("6, values 0 and 255", BoundaryTest::pieceOfLeastAndGreatestValue);
        TESTS.put("7, 0 for the empty set", BoundaryTest::sumOfEmptySet);
        TESTS.put("7, NONE when set is not 0 .. 255", BoundaryTest::sumWrongSet);
        TESTS.put("7, set is 0 .. 255", BoundaryTest::sumOfEverySet);
        TESTS.put("7, NONE when it is not known", BoundaryTest::sumNotKnown);
        TESTS.put("7, known without its pieces", BoundaryTest::sumKnownWithoutItsPieces);
        TESTS.put("8, from no piece to all", BoundaryTest::missingOfNoneAndAll);
        TESTS.put("8, drops that say nothing new", BoundaryTest::missingCountsNothingTwice);
        TESTS.put("8, the least number, well chosen", BoundaryTest::missingIsReachedAndNotSooner);
        TESTS.put("9, false when there is none: not 0 .. 9", BoundaryTest::idleWrongNumber);
        TESTS.put("9, false when there is none: not kept", BoundaryTest::idleOfNumberNotKept);
        TESTS.put("9, the only drop", BoundaryTest::idleOfTheOnlyDrop);
        TESTS.put("9, each of ten", BoundaryTest::idleOfEachOfTen);
        TESTS.put("9, none to spare", BoundaryTest::idleOfEachOfTheWhole);
        TESTS.put("9, all that is known: sums too", BoundaryTest::idleCountsSumsAsKnown);
        TESTS.put("10, from no set to 255", BoundaryTest::knownSumsOfNoneToAll);
        TESTS.put("10, drops that say nothing new", BoundaryTest::knownSumsCountsNothingTwice);
        TESTS.put("11, NONE when set is not 1 .. 255", BoundaryTest::knownWithWrongSet);
        TESTS.put("11, set is 1 .. 255, no drops", BoundaryTest::knownWithEverySetOfNone);
        TESTS.put("11, set is 1 .. 255, all pieces known", BoundaryTest::knownWithEverySetOfTheWhole);
        TESTS.put("11, it does not matter that ten are kept", BoundaryTest::knownWithWhenTenAreKept);
        TESTS.put("11, a value that agrees", BoundaryTest::knownWithAValueThatAgrees);
        TESTS.put("11, would be known: nothing is taken", BoundaryTest::knownWithTakesNothing);
        TESTS.put("12, the least set of equal ones", BoundaryTest::bestSetIsTheLeast);
        TESTS.put("12, sets 1 to 128", BoundaryTest::bestSetOfEachPiece);
        TESTS.put("12, for which knownWith is greatest", BoundaryTest::bestSetIsTheGreatestCount);
        TESTS.put("12, a set that is no piece", BoundaryTest::bestSetThatIsNoPiece);
        TESTS.put("13, false when i is not 0 .. 7", BoundaryTest::possibleWrongPiece);
        TESTS.put("13, false when v is not 0 .. 255", BoundaryTest::possibleWrongValue);
        TESTS.put("13, i and v as said, not known", BoundaryTest::possibleEveryValueOfAFreePiece);
        TESTS.put("13, i and v as said, known", BoundaryTest::possibleOneValueOfAKnownPiece);
        TESTS.put("14, no drops", BoundaryTest::enoughOfNone);
        TESTS.put("14, the empty set and the whole", BoundaryTest::enoughOfEmptyAndWholeSet);
        TESTS.put("14, others do not matter", BoundaryTest::enoughWithBitsOfNoDrop);
        TESTS.put("14, drops that are kept", BoundaryTest::enoughWithOneThrownAway);
        TESTS.put("14, one of ten", BoundaryTest::enoughOfOneInTen);
        TESTS.put("14, just enough and just not", BoundaryTest::enoughJustAndJustNot);
        TESTS.put("14, all known: sums too", BoundaryTest::enoughCountsSumsAsKnown);
        TESTS.put("15, NONE before FULL", BoundaryTest::noneBeforeFull);
        TESTS.put("15, FULL before REFUSED", BoundaryTest::fullBeforeRefused);
        TESTS.put("15, NONE before REFUSED", BoundaryTest::noneBeforeRefused);
        TESTS.put("15, changes nothing: take, a number not as said", BoundaryTest::takeOfWrongNumbersChangesNothing);
        TESTS.put("15, changes nothing: take, a limit reached", BoundaryTest::takeThatIsFullChangesNothing);
        TESTS.put("15, changes nothing: take, not agreeing", BoundaryTest::takeThatDoesNotAgreeChangesNothing);
        TESTS.put("15, changes nothing: drop, not there", BoundaryTest::dropOfNoneChangesNothing);
        TESTS.put("15, changes nothing: a question not as said", BoundaryTest::wrongQuestionsChangeNothing);
        TESTS.put("15, changes nothing: a question not there", BoundaryTest::askingWhatIsNotThereChangesNothing);
        TESTS.put("5, 6, 7 and 13, each of ten kept drops counts", BoundaryTest::knownThroughEachOfTen);
        TESTS.put("8, 10, 11 and 12, each of ten kept drops counts", BoundaryTest::countedThroughEachOfTen);
        TESTS.put("9 and 14, each of ten kept drops counts", BoundaryTest::spareAmongEachOfTen);
        TESTS.put("2, each of ten kept drops counts", BoundaryTest::refusedThroughEachOfTen);
        TESTS.put("at most 512 calls", BoundaryTest::theLastCallsAnswerAsTheFirst);
    }

    private static void run(String name, Runnable body) {
        test = name;
        try {
            body.run();
        } catch (RuntimeException e) {
            report("a call threw " + e);
        }
    }

    public static void main(String[] args) {
        listTests();
        TESTS.forEach(BoundaryTest::run);
        System.out.println(TESTS.size() + " tests, " + wrong + " answers are not as due");
        if (wrong != 0) {
            System.exit(1);
        }
    }
}
