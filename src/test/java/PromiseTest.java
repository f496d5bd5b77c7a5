/** Every promise of the document by itself, with answers worked out by hand. */
public final class PromiseTest {
    private static final int NONE = -1;
    private static final int FULL = -2;
    private static final int REFUSED = -3;
    private static final int LEAST = Integer.MIN_VALUE;
    private static final int GREATEST = Integer.MAX_VALUE;

    private static int wrong = 0;

    private static void due(String call, int got, int want) {
        if (got != want) {
            wrong++;
            System.out.println(call + " answered " + got + ", due is " + want);
        }
    }

    private static void due(String call, boolean got, boolean want) {
        if (got != want) {
            wrong++;
            System.out.println(call + " answered " + got + ", due is " + want);
        }
    }

    /** Pieces 0 = 10, 0^1 = 7 (so 1 = 13), 2^3 = 20, and 0^1 a second time. */
    private static FountainDesk fourDrops() {
        FountainDesk x = new FountainDesk();
        x.take(1, 10);
        x.take(3, 7);
        x.take(12, 20);
        x.take(3, 7);
        return x;
    }

    private static FountainDesk tenDrops() {
        FountainDesk x = new FountainDesk();
        for (int k = 0; k < 10; k++) {
            x.take(1 + k % 2, 40);
        }
        return x;
    }

    /** Piece i is 255 - i for all eight. */
    private static FountainDesk wholeMessage() {
        FountainDesk x = new FountainDesk();
        for (int i = 0; i < 8; i++) {
            x.take(1 << i, 255 - i);
        }
        return x;
    }

    private static void promise1() {
        FountainDesk x = new FountainDesk();
        due("1: drops()", x.drops(), 0);
        due("1: known()", x.known(), 0);
        due("1: missing()", x.missing(), 8);
        due("1: knownSums()", x.knownSums(), 0);
        FountainDesk y = new FountainDesk();
        x.take(1, 1);
        due("1: drops() of another object", y.drops(), 0);
        due("1: piece(0) of another object", y.piece(0), NONE);
    }

    private static void promise2() {
        FountainDesk x = new FountainDesk();
        due("2: take(0, 0)", x.take(0, 0), NONE);
        due("2: take(-1, 0)", x.take(-1, 0), NONE);
        due("2: take(256, 0)", x.take(256, 0), NONE);
        due("2: take(257, 0)", x.take(257, 0), NONE);
        due("2: take(LEAST, 0)", x.take(LEAST, 0), NONE);
        due("2: take(GREATEST, 0)", x.take(GREATEST, 0), NONE);
        due("2: take(1, -1)", x.take(1, -1), NONE);
        due("2: take(1, 256)", x.take(1, 256), NONE);
        due("2: take(1, LEAST)", x.take(1, LEAST), NONE);
        due("2: take(1, GREATEST)", x.take(1, GREATEST), NONE);
        due("2: drops()", x.drops(), 0);
        due("2: take(1, 0)", x.take(1, 0), 0);
        due("2: take(255, 255)", x.take(255, 255), 1);
        due("2: take(254, 254)", x.take(254, 254), REFUSED);
        due("2: take(254, 255)", x.take(254, 255), 2);
        due("2: take(1, 1)", x.take(1, 1), REFUSED);
        due("2: take(1, 128)", x.take(1, 128), REFUSED);
        due("2: take(1, 0) once more", x.take(1, 0), 3);
        x.drop(2);
        x.drop(0);
        due("2: take(2, 9), least free", x.take(2, 9), 0);
        due("2: take(4, 9), next free", x.take(4, 9), 2);
        due("2: take(8, 9), after the gaps", x.take(8, 9), 4);

        FountainDesk full = tenDrops();
        due("2: take(4, 0) when full", full.take(4, 0), FULL);
        due("2: take(1, 40) when full", full.take(1, 40), FULL);
        full.drop(6);
        due("2: take(4, 0) after drop(6)", full.take(4, 0), 6);
    }

    private static void promise3() {
        FountainDesk x = fourDrops();
        due("3: drop(-1)", x.drop(-1), false);
        due("3: drop(4)", x.drop(4), false);
        due("3: drop(9)", x.drop(9), false);
        due("3: drop(10)", x.drop(10), false);
        due("3: drop(32)", x.drop(32), false);
        due("3: drop(-32)", x.drop(-32), false);
        due("3: drop(LEAST)", x.drop(LEAST), false);
        due("3: drop(GREATEST)", x.drop(GREATEST), false);
        due("3: drops()", x.drops(), 15);
        due("3: drop(0)", x.drop(0), true);
        due("3: drops() after", x.drops(), 14);
        due("3: drop(0) again", x.drop(0), false);
        due("3: piece(0) after", x.piece(0), NONE);
        due("3: sum(3) after", x.sum(3), 7);
        due("3: drop(1)", x.drop(1), true);
        due("3: sum(3), told twice", x.sum(3), 7);
        due("3: drop(3)", x.drop(3), true);
        due("3: sum(3), told no more", x.sum(3), NONE);
        due("3: take(3, 8), free again", x.take(3, 8), 0);
        FountainDesk full = tenDrops();
        due("3: drop(9) when full", full.drop(9), true);
        due("3: drops() without 9", full.drops(), 511);
    }

    private static void promise4() {
        FountainDesk x = fourDrops();
        due("4: drops()", x.drops(), 15);
        x.drop(1);
        due("4: drops() without 1", x.drops(), 13);
        due("4: drops() of ten", tenDrops().drops(), 1023);
    }

    private static void promise5() {
        FountainDesk x = fourDrops();
        due("5: known()", x.known(), 3);
        x.take(128, 0);
        due("5: known() with piece 7", x.known(), 131);
        x.take(8, 1);
        due("5: known() through 12", x.known(), 143);
        due("5: known() of the whole", wholeMessage().known(), 255);
        FountainDesk circle = new FountainDesk();
        circle.take(3, 1);
        circle.take(6, 2);
        circle.take(5, 3);
        due("5: known() of a circle", circle.known(), 0);
        circle.take(7, 9);
        due("5: known() of a circle with its sum", circle.known(), 7);
    }

    private static void promise6() {
        FountainDesk x = fourDrops();
        due("6: piece(0)", x.piece(0), 10);
        due("6: piece(1)", x.piece(1), 13);
        due("6: piece(2)", x.piece(2), NONE);
        due("6: piece(7)", x.piece(7), NONE);
        FountainDesk whole = wholeMessage();
        due("6: piece(0) of the whole", whole.piece(0), 255);
        due("6: piece(7) of the whole", whole.piece(7), 248);
        due("6: piece(-1)", whole.piece(-1), NONE);
        due("6: piece(8)", whole.piece(8), NONE);
        due("6: piece(32)", whole.piece(32), NONE);
        due("6: piece(-32)", whole.piece(-32), NONE);
        due("6: piece(LEAST)", whole.piece(LEAST), NONE);
        due("6: piece(GREATEST)", whole.piece(GREATEST), NONE);
    }

    private static void promise7() {
        FountainDesk x = fourDrops();
        due("7: sum(0)", x.sum(0), 0);
        due("7: sum(2)", x.sum(2), 13);
        due("7: sum(12)", x.sum(12), 20);
        due("7: sum(14)", x.sum(14), 25);
        due("7: sum(15)", x.sum(15), 19);
        due("7: sum(4)", x.sum(4), NONE);
        due("7: sum(255)", x.sum(255), NONE);
        FountainDesk whole = wholeMessage();
        due("7: sum(255) of the whole", whole.sum(255), 0);
        due("7: sum(129) of the whole", whole.sum(129), 7);
        due("7: sum(-1)", whole.sum(-1), NONE);
        due("7: sum(256)", whole.sum(256), NONE);
        due("7: sum(LEAST)", whole.sum(LEAST), NONE);
        due("7: sum(GREATEST)", whole.sum(GREATEST), NONE);
        due("7: sum(1 << 24)", whole.sum(1 << 24), NONE);
    }

    private static void promise8() {
        due("8: missing() of four drops", fourDrops().missing(), 5);
        due("8: missing() of ten drops", tenDrops().missing(), 6);
        FountainDesk whole = wholeMessage();
        due("8: missing() of the whole", whole.missing(), 0);
        whole.take(255, 0);
        due("8: missing() with one to spare", whole.missing(), 0);
        whole.drop(4);
        due("8: missing() with the spare used", whole.missing(), 0);
        whole.drop(5);
        due("8: missing() with two gone", whole.missing(), 1);
    }

    private static void promise9() {
        FountainDesk x = fourDrops();
        due("9: idle(0)", x.idle(0), false);
        due("9: idle(1)", x.idle(1), true);
        due("9: idle(2), a sum without a known piece", x.idle(2), false);
        due("9: idle(3)", x.idle(3), true);
        due("9: idle(4)", x.idle(4), false);
        due("9: idle(-1)", x.idle(-1), false);
        due("9: idle(10)", x.idle(10), false);
        due("9: idle(33)", x.idle(33), false);
        due("9: idle(LEAST)", x.idle(LEAST), false);
        due("9: idle(GREATEST)", x.idle(GREATEST), false);
        x.drop(3);
        due("9: idle(1) alone", x.idle(1), false);
        due("9: idle(3) thrown away", x.idle(3), false);
        due("9: idle(9) of ten", tenDrops().idle(9), true);
        FountainDesk circle = new FountainDesk();
        circle.take(3, 1);
        circle.take(6, 2);
        circle.take(5, 3);
        due("9: idle(0) of a circle", circle.idle(0), true);
        due("9: idle(2) of a circle", circle.idle(2), true);
    }

    private static void promise10() {
        due("10: knownSums() of four drops", fourDrops().knownSums(), 7);
        due("10: knownSums() of ten drops", tenDrops().knownSums(), 3);
        due("10: knownSums() of the whole", wholeMessage().knownSums(), 255);
        FountainDesk x = new FountainDesk();
        x.take(255, 0);
        due("10: knownSums() of one", x.knownSums(), 1);
    }

    private static void promise11() {
        FountainDesk x = fourDrops();
        due("11: knownWith(1)", x.knownWith(1), 2);
        due("11: knownWith(4)", x.knownWith(4), 4);
        due("11: knownWith(13)", x.knownWith(13), 2);
        due("11: knownWith(7)", x.knownWith(7), 4);
        due("11: knownWith(48)", x.knownWith(48), 2);
        due("11: knownWith(255)", x.knownWith(255), 2);
        due("11: knownWith(0)", x.knownWith(0), NONE);
        due("11: knownWith(-1)", x.knownWith(-1), NONE);
        due("11: knownWith(256)", x.knownWith(256), NONE);
        due("11: knownWith(LEAST)", x.knownWith(LEAST), NONE);
        due("11: knownWith(GREATEST)", x.knownWith(GREATEST), NONE);
        due("11: known() is as it was", x.known(), 3);
        due("11: drops() is as it was", x.drops(), 15);
        due("11: knownWith(128) of ten", tenDrops().knownWith(128), 3);
        due("11: knownWith(255) of the whole", wholeMessage().knownWith(255), 8);
    }

    private static void promise12() {
        due("12: bestSet() of a new object", new FountainDesk().bestSet(), 1);
        FountainDesk x = fourDrops();
        due("12: bestSet() of four drops", x.bestSet(), 4);
        due("12: drops() is as it was", x.drops(), 15);
        due("12: bestSet() of ten drops", tenDrops().bestSet(), 4);
        due("12: bestSet() of the whole", wholeMessage().bestSet(), 1);
        FountainDesk last = wholeMessage();
        last.drop(7);
        due("12: bestSet() with piece 7 missing", last.bestSet(), 128);
        FountainDesk chain = new FountainDesk();
        chain.take(48, 1);
        chain.take(96, 1);
        due("12: bestSet() of a chain", chain.bestSet(), 16);
        FountainDesk mixed = new FountainDesk();
        mixed.take(15, 1);
        mixed.take(51, 2);
        due("12: bestSet() of two sums of four", mixed.bestSet(), 1);
        FountainDesk pairs = new FountainDesk();
        pairs.take(13, 1);
        pairs.take(19, 2);
        pairs.take(35, 3);
        // 3 makes the pieces 4 and 5 known; 1 and 2 only themselves.
        due("12: bestSet() that is no single piece", pairs.bestSet(), 3);
    }

    private static void promise13() {
        FountainDesk x = fourDrops();
        due("13: possible(0, 10)", x.possible(0, 10), true);
        due("13: possible(0, 11)", x.possible(0, 11), false);
        due("13: possible(1, 13)", x.possible(1, 13), true);
        due("13: possible(1, 7)", x.possible(1, 7), false);
        due("13: possible(2, 0)", x.possible(2, 0), true);
        due("13: possible(2, 255)", x.possible(2, 255), true);
        due("13: possible(7, 99)", x.possible(7, 99), true);
        due("13: possible(2, -1)", x.possible(2, -1), false);
        due("13: possible(2, 256)", x.possible(2, 256), false);
        due("13: possible(2, LEAST)", x.possible(2, LEAST), false);
        due("13: possible(2, GREATEST)", x.possible(2, GREATEST), false);
        due("13: possible(-1, 0)", x.possible(-1, 0), false);
        due("13: possible(-1, -1)", x.possible(-1, -1), false);
        due("13: possible(8, 0)", x.possible(8, 0), false);
        due("13: possible(34, 0)", x.possible(34, 0), false);
        due("13: possible(LEAST, 0)", x.possible(LEAST, 0), false);
        due("13: possible(GREATEST, 0)", x.possible(GREATEST, 0), false);
    }

    private static void promise14() {
        FountainDesk x = fourDrops();
        due("14: enough(0)", x.enough(0), false);
        due("14: enough(7)", x.enough(7), true);
        due("14: enough(13)", x.enough(13), true);
        due("14: enough(15)", x.enough(15), true);
        due("14: enough(11), known pieces only", x.enough(11), false);
        due("14: enough(14)", x.enough(14), false);
        due("14: enough(-1)", x.enough(-1), true);
        due("14: enough(GREATEST)", x.enough(GREATEST), true);
        due("14: enough(LEAST)", x.enough(LEAST), false);
        due("14: enough(LEAST + 7)", x.enough(LEAST + 7), true);
        due("14: enough(1008), none kept", x.enough(1008), false);
        due("14: enough(1024 + 7)", x.enough(1024 + 7), true);
        x.drop(1);
        due("14: enough(7) without 1", x.enough(7), false);
        due("14: enough(15) without 1", x.enough(15), true);
        due("14: enough(768) of ten", tenDrops().enough(768), true);
        due("14: enough(512) of ten", tenDrops().enough(512), false);
        due("14: enough(0) of none", new FountainDesk().enough(0), true);
        due("14: enough(-1) of none", new FountainDesk().enough(-1), true);
    }

    private static void promise15() {
        FountainDesk full = tenDrops();
        due("15: take(0, 0) when full", full.take(0, 0), NONE);
        due("15: take(1, 256) when full", full.take(1, 256), NONE);
        due("15: take(1, 41), full and against", full.take(1, 41), FULL);
        due("15: drops() after FULL", full.drops(), 1023);
        due("15: sum(3) after FULL", full.sum(3), 0);
        due("15: known() after FULL", full.known(), 3);

        FountainDesk x = fourDrops();
        due("15: take(1, 11)", x.take(1, 11), REFUSED);
        due("15: take(256, 1)", x.take(256, 1), NONE);
        due("15: take(4, 256)", x.take(4, 256), NONE);
        due("15: drop(4)", x.drop(4), false);
        due("15: drop(-1)", x.drop(-1), false);
        due("15: drops() after refusals", x.drops(), 15);
        due("15: known() after refusals", x.known(), 3);
        due("15: piece(0) after refusals", x.piece(0), 10);
        due("15: knownSums() after refusals", x.knownSums(), 7);
        due("15: take(1, 10), the next number", x.take(1, 10), 4);
    }

    public static void main(String[] args) {
        promise1();
        promise2();
        promise3();
        promise4();
        promise5();
        promise6();
        promise7();
        promise8();
        promise9();
        promise10();
        promise11();
        promise12();
        promise13();
        promise14();
        promise15();
        System.out.println(wrong == 0 ? "all answers are as due" : wrong + " answers are not as due");
        if (wrong != 0) {
            System.exit(1);
        }
    }
}
