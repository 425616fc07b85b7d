/** Promises 17 to 20 at their edges. */
final class ItemEdgeTest {
    private static final int LOW = Integer.MIN_VALUE, HIGH = Integer.MAX_VALUE;
    private static final String TWELVE = "v41;v41;v41;v41;v41;v41;v41;v41;v41;v41;v41;v41";
    private final Checks checks = new Checks();
    private final Edges edges = new Edges(checks);

    public static void main(String[] args) {
        ItemEdgeTest test = new ItemEdgeTest();
        test.itemNumbers();
        test.itemKinds();
        test.itemRefusals();
        test.chosenNumbers();
        test.chosenWithoutItems();
        test.chosenJustSo();
        test.chosenTies();
        test.chosenOfTen();
        test.nextNumbers();
        test.nextNone();
        test.nextStep();
        test.nextTies();
        test.betterByOne();
        test.stepsNumbers();
        test.stepsAtMostTwenty();
        test.stepsNone();
        test.stepsStep();
        test.beyondTwelve();
        test.checks.end("ItemEdgeTest");
    }

    /** Wishes a fold at column 4 of so much: a BEND b there misses it by 4 times the difference. */
    private void fold(int v) {
        Checks.wishFold(edges.object(), v);
    }

    private void itemNumbers() {
        edges.anew("17 numbered from 0 on, 10 at most");
        for (int n = 0; n < 10; n++) {
            edges.due("told(2)", n);
            edges.due("item(" + n % 8 + ", " + (n % 9 + 1) + ", true, false)", n);
        }
        edges.due("item(0, 1, false, false)", -4);
        edges.due("item(7, 9, true, true)", -4);
        edges.due("told(2)", 10);
        edges.also("17 of UNKNOWN, OUTSIDE and FULL the first");
        edges.dueEach("item(%, 1, false, false)", new int[] {-1, 8, LOW, HIGH}, -1);
        edges.dueEach("item(%, 0, false, false)", new int[] {-1, 8, LOW, HIGH}, -1);
        edges.dueEach("item(%, 10, true, true)", new int[] {-1, 8, LOW, HIGH}, -1);
        edges.dueEach("item(0, %, false, false)", new int[] {0, 10, LOW, HIGH}, -2);
        edges.due("told(2)", 10);
    }

    /** Each of water and back, or not: 20 and 25 at column 4, either way. */
    private void itemKinds() {
        int[] bends = {20, -20, 25, -25};
        for (int kind = 0; kind < 4; kind++) {
            edges.anew("17 water and back", "item(3, 2, " + (kind > 1) + ", " + (kind % 2 == 1) + ")");
            fold(bends[kind]);
            edges.due("chosen(0, 0)", 1);
            edges.due("next(1)", 0);
            edges.due("steps(1)", 0);
        }
    }

    private void itemRefusals() {
        edges.anew("17 LINES 0 to 7");
        edges.dueEach("item(%, 1, false, false)", new int[] {-1, 8, LOW, HIGH}, -1);
        edges.due("item(0, 1, false, false)", 0);
        edges.due("item(7, 1, false, false)", 1);
        edges.also("17 strength 1 to 9");
        edges.dueEach("item(0, %, false, false)", new int[] {-1, 0, 10, LOW, HIGH}, -2);
        edges.due("item(0, 1, true, false)", 2);
        edges.due("item(0, 9, false, true)", 3);
        edges.also("17 of UNKNOWN and OUTSIDE the first");
        edges.dueEach("item(8, %, true, true)", new int[] {0, 10, LOW, HIGH}, -1);
        edges.also("17 THE WORK is not bounded by ITEMS, nor ITEMS by THE WORK");
        edges.due("told(1)", 0);
        edges.due("say " + TWELVE, 47);
        edges.due("take()", 12);
        edges.due("item(1, 1, false, false)", 4);
    }

    private void chosenNumbers() {
        edges.anew("18 most 0 to 100000000");
        edges.dueEach("chosen(%, 0)", new int[] {-1, 100000001, LOW, HIGH}, -2);
        edges.dueEach("chosen(%, 1)", new int[] {-1, 100000001, LOW, HIGH}, -2);
        edges.dueEach("chosen(%, 0)", new int[] {0, 100000000}, 0);
        edges.dueEach("chosen(%, 1)", new int[] {0, 100000000}, 0);
        edges.also("18 what 0 or 1");
        edges.dueEach("chosen(0, %)", new int[] {-1, 2, LOW, HIGH}, -2);
        edges.dueEach("chosen(100000000, %)", new int[] {-1, 2, LOW, HIGH}, -2);
        edges.anew("18 of OUTSIDE and NO the first", "wish(14, 1)");
        edges.dueEach("chosen(0, %)", new int[] {-1, 2, LOW, HIGH}, -2);
        edges.dueEach("chosen(-1, %)", new int[] {0, 1, 2}, -2);
        edges.dueEach("chosen(0, %)", new int[] {0, 1}, -5);
    }

    private void chosenWithoutItems() {
        edges.anew("18 no ITEMS: the empty set or none", "wish(14, 1)");
        edges.due("chosen(5, 0)", 0);
        edges.due("chosen(5, 1)", 5);
        edges.dueEach("chosen(4, %)", new int[] {0, 1}, -5);
        edges.anew("18 no ITEMS, behind THE WORK", "say v41", "take()");
        edges.due("chosen(40, 0)", 0);
        edges.due("chosen(40, 1)", 40);
        edges.due("chosen(39, 0)", -5);
        edges.anew("18 the farthest WISH", "wish(0, 100000)", "wish(35, 100000)", "wish(5, -100000)", "wish(30, -100000)");
        edges.due("chosen(2000000, 1)", 2000000);
        edges.due("chosen(1999999, 1)", -5);
    }

    private void chosenJustSo() {
        edges.anew("18 a WORST of so much or less", "item(3, 2, false, false)", "item(3, 1, false, false)");
        fold(30);
        // none 120, ITEM 0 misses by 10: 40, ITEM 1 by 20: 80, both 20 and 7 by 3: 12
        edges.due("chosen(120, 0)", 0);
        edges.due("chosen(120, 1)", 120);
        edges.due("chosen(119, 0)", 1);
        edges.due("chosen(119, 1)", 40);
        edges.due("chosen(40, 0)", 1);
        edges.due("chosen(39, 0)", 3);
        edges.due("chosen(39, 1)", 12);
        edges.due("chosen(12, 0)", 3);
        edges.also("18 NO: none does");
        edges.dueEach("chosen(11, %)", new int[] {0, 1}, -5);
        edges.dueEach("chosen(0, %)", new int[] {0, 1}, -5);
        edges.also("18 THE WORK and ITEMS stay");
        edges.due("told(1)", 0);
        edges.due("told(2)", 2);
        edges.due("worst()", 120);
    }

    private void chosenTies() {
        edges.anew("18 the fewest, though more have a less WORST", "item(3, 1, false, false)", "item(3, 1, false, false)",
            "item(3, 1, false, false)", "set(2, 0)");
        fold(30);
        edges.due("chosen(80, 0)", 1);
        edges.due("chosen(80, 1)", 80);
        edges.also("18 of several with the same WORST the least as bits");
        edges.due("chosen(79, 0)", 3);
        edges.due("chosen(40, 0)", 3);
        edges.due("chosen(39, 0)", 7);
        edges.anew("18 the fewest, though a set of lesser bits has a less WORST", "item(3, 1, false, false)",
            "item(3, 2, false, false)", "item(3, 4, false, false)");
        fold(28);
        // ITEM 0 misses by 18, 1 by 8, 2 by 12, the first two (10 and 14) by 4
        edges.due("chosen(47, 0)", 2);
        edges.due("chosen(31, 0)", 3);
        edges.due("chosen(31, 1)", 16);
        edges.due("item(3, 3, false, false)", 3);
        edges.due("chosen(31, 0)", 8);
        edges.due("chosen(31, 1)", 8);
        edges.anew("18 the fewest, though its bits and its WORST are greater", "item(3, 1, false, false)",
            "item(3, 1, false, false)", "item(3, 3, false, false)");
        fold(18);
        // the first two (10 and 7) miss by 1, ITEM 0 by 8, ITEM 2 by 12: of one ITEM the least WORST
        edges.due("chosen(48, 0)", 1);
        edges.due("table(1, 0, 6)", 10);
        fold(12);
        // now 6 and 4 miss by 2, ITEM 0 by 6, ITEM 2 by 18
        edges.due("chosen(23, 0)", 3);
        edges.due("table(3, 0, 17)", 30);
        // and ITEM 2 by 5
        edges.due("chosen(23, 0)", 4);
        edges.due("chosen(23, 1)", 20);
        edges.due("chosen(19, 0)", 3);
        edges.anew("18 the least WORST ahead of the least as bits", "item(3, 1, false, false)", "item(3, 2, false, false)",
            "item(3, 3, false, false)");
        fold(30);
        edges.due("chosen(100, 0)", 4);
        edges.due("chosen(100, 1)", 0);
        edges.anew("18 least as bits, not the first number", "item(3, 9, false, true)", "item(3, 1, false, false)",
            "item(3, 1, false, false)");
        fold(10);
        edges.due("chosen(0, 0)", 2);
        edges.anew("18 an ITEM that bends nothing is not chosen", "item(3, 1, false, false)", "table(1, 0, 0)");
        edges.due("chosen(0, 0)", 0);
    }

    private void chosenOfTen() {
        edges.anew("18 all 10 ITEMS", "set(2, 0)");
        for (int n = 0; n < 10; n++) {
            edges.due("item(3, 1, false, false)", n);
        }
        fold(100);
        edges.due("chosen(0, 0)", 1023);
        edges.due("chosen(39, 0)", 1023);
        edges.due("chosen(40, 0)", 511);
        edges.due("chosen(399, 0)", 1);
        edges.due("chosen(400, 0)", 0);
        edges.anew("18 the last of 10 ITEMS");
        for (int n = 0; n < 10; n++) {
            edges.due("item(3, " + (n == 9 ? 1 : 9) + ", false, " + (n < 9) + ")", n);
        }
        fold(10);
        edges.due("chosen(0, 0)", 512);
        edges.due("next(0)", 9);
    }

    private void nextNumbers() {
        edges.anew("19 what 0 or 1", "item(3, 1, false, false)");
        fold(10);
        edges.due("next(0)", 0);
        edges.due("next(1)", 0);
        edges.dueEach("next(%)", new int[] {-1, 2, LOW, HIGH}, -2);
        edges.anew("19 OUTSIDE, though there is none");
        edges.dueEach("next(%)", new int[] {-1, 2, LOW, HIGH}, -2);
    }

    private void nextNone() {
        edges.anew("19 NONE: no ITEMS", "wish(14, 1)");
        edges.dueEach("next(%)", new int[] {0, 1}, -6);
        edges.anew("19 NONE: WORST is 0", "item(3, 1, false, false)");
        edges.dueEach("next(%)", new int[] {0, 1}, -6);
        edges.anew("19 NONE: each makes WORST greater", "item(3, 1, false, true)", "item(3, 9, true, true)");
        fold(30);
        edges.dueEach("next(%)", new int[] {0, 1}, -6);
        edges.anew("19 NONE: WORST stays", "item(3, 1, false, false)", "table(1, 0, 0)");
        fold(30);
        edges.dueEach("next(%)", new int[] {0, 1}, -6);
        edges.anew("19 NONE: the PART is 0", "item(3, 1, false, false)", "set(2, 100)", "say v41", "take()");
        fold(30);
        edges.dueEach("next(%)", new int[] {0, 1}, -6);
        edges.due("set(2, 99)", 100);
        edges.also("19 NONE: what it bends is cut to 0");
        edges.due("next(0)", -6);
        edges.due("set(2, 90)", 99);
        edges.also("19 what it bends is just 1");
        edges.due("next(0)", 0);
        edges.due("next(1)", 76);
    }

    private void nextStep() {
        edges.anew("19 lowered by STEP, by less", "item(1, 9, false, false)", "table(9, 0, 1000)");
        for (int corner = 0; corner < 36; corner++) {
            edges.due("wish(" + corner + ", " + 1000 * Math.max(corner % 6 - 2, 0) + ")", 0);
        }
        edges.due("worst()", 6000);
        edges.due("next(0)", 0);
        edges.due("set(3, 5999)", 1);
        edges.due("next(0)", 0);
        edges.due("set(3, 6000)", 5999);
        edges.due("next(0)", 0);
        edges.due("next(1)", 0);
        edges.due("steps(0)", 1);
        edges.due("set(3, 6001)", 6000);
        edges.dueEach("next(%)", new int[] {0, 1}, -6);
        edges.due("steps(0)", 0);
        edges.due("steps(1)", 6000);
        edges.due("set(3, 100000)", 6001);
        edges.dueEach("next(%)", new int[] {0, 1}, -6);
        edges.also("19 a refused STEP stays without effect");
        edges.due("set(3, 0)", -2);
        edges.due("next(0)", -6);
        edges.due("set(3, 1)", 100000);
        edges.due("set(3, 100001)", -2);
        edges.due("next(0)", 0);
    }

    /** BENDS of 1 at column 1 and 2 at column 4 miss by 9; with 1 there by 5, with 0 by 4, with -1 by 3. */
    private void betterByOne() {
        edges.anew("19 the least WORST, less by just 1", "say v11;v42", "take()", "set(2, 0)", "table(1, 0, 1)",
            "table(2, 0, 2)", "item(3, 1, false, true)", "item(3, 2, false, true)");
        edges.due("worst()", 9);
        edges.due("next(0)", 1);
        edges.due("next(1)", 4);
        edges.also("18 the least WORST, less by just 1");
        edges.due("chosen(8, 0)", 2);
        edges.due("chosen(8, 1)", 4);
        edges.due("chosen(3, 0)", 3);
        edges.due("chosen(2, 0)", -5);
        edges.also("20 WORST goes down by 5 and by 1");
        edges.due("steps(0)", 2);
        edges.due("steps(1)", 3);
        edges.due("set(3, 2)", 1);
        edges.due("steps(0)", 1);
        edges.due("steps(1)", 4);
    }

    private void nextTies() {
        edges.anew("19 the first such", "item(3, 9, false, true)", "item(3, 1, false, false)", "item(3, 1, false, false)",
            "item(3, 3, false, false)");
        fold(20);
        edges.due("next(0)", 1);
        edges.due("next(1)", 40);
        edges.also("19 the least WORST, not the first that lowers it");
        edges.due("item(3, 2, false, false)", 4);
        edges.due("next(0)", 4);
        edges.due("next(1)", 0);
        edges.also("19 THE WORK and ITEMS stay");
        edges.due("told(1)", 0);
        edges.due("told(2)", 5);
    }

    private void stepsNumbers() {
        edges.anew("20 what 0 or 1", "item(3, 1, false, false)");
        fold(10);
        edges.due("steps(0)", 1);
        edges.due("steps(1)", 0);
        edges.dueEach("steps(%)", new int[] {-1, 2, LOW, HIGH}, -2);
        edges.anew("20 OUTSIDE, though there is none");
        edges.dueEach("steps(%)", new int[] {-1, 2, LOW, HIGH}, -2);
    }

    private void stepsAtMostTwenty() {
        edges.anew("20 at most 20", "item(3, 1, false, false)", "set(2, 0)");
        fold(190);
        edges.due("steps(0)", 19);
        edges.due("steps(1)", 0);
        fold(200);
        edges.due("steps(0)", 20);
        edges.due("steps(1)", 0);
        fold(210);
        edges.due("steps(0)", 20);
        edges.due("steps(1)", 40);
        edges.due("told(1)", 0);
        edges.due("bend(3)", 0);
    }

    private void stepsNone() {
        edges.anew("20 no ITEMS", "wish(14, 1)");
        edges.due("steps(0)", 0);
        edges.due("steps(1)", 5);
        edges.anew("20 nothing is missed", "item(3, 1, false, false)");
        edges.due("steps(0)", 0);
        edges.due("steps(1)", 0);
        edges.anew("20 no ITEM lowers WORST", "item(3, 1, false, true)");
        fold(10);
        edges.due("steps(0)", 0);
        edges.due("steps(1)", 40);
    }

    private void stepsStep() {
        edges.anew("20 till an ITEM lowers WORST by less than STEP", "item(3, 1, false, false)");
        fold(30);
        // 10, 7, 4 and 1: WORST goes down by 40, 28, 16 and 4
        int[] steps = {4, 28, 29, 40, 41};
        int[] done = {4, 2, 1, 1, 0};
        int[] left = {32, 52, 80, 80, 120};
        int was = 1;
        for (int i = 0; i < steps.length; i++) {
            edges.due("set(3, " + steps[i] + ")", was);
            edges.due("steps(0)", done[i]);
            edges.due("steps(1)", left[i]);
            was = steps[i];
        }
    }

    private void beyondTwelve() {
        edges.anew("20 THE WORK stays; it is not bounded to 12", "say " + TWELVE, "take()", "set(2, 0)",
            "item(3, 1, false, false)");
        fold(310);
        edges.due("steps(0)", 19);
        fold(330);
        edges.due("steps(0)", 20);
        edges.due("steps(1)", 40);
        edges.due("told(1)", 12);
        edges.due("bend(3)", 120);
        edges.also("19 behind 12 PASSES");
        edges.due("next(0)", 0);
        edges.due("next(1)", 800);
        edges.also("18 behind 12 PASSES");
        edges.due("chosen(800, 0)", 1);
        edges.due("chosen(799, 0)", -5);
        edges.due("told(1)", 12);
    }
}
