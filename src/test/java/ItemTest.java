/** Promises 17 to 20: ITEMS, CHOSEN, NEXT and STEPS. */
final class ItemTest {
    private static final int LOW = Integer.MIN_VALUE, HIGH = Integer.MAX_VALUE;
    private final Checks checks = new Checks();

    public static void main(String[] args) {
        ItemTest test = new ItemTest();
        test.items();
        test.chosenFewest();
        test.chosenTies();
        test.chosenInOrder();
        test.chosenRefused();
        test.nexts();
        test.nextStep();
        test.stepsDone();
        test.beyondTwelve();
        test.betterByOne();
        test.allTen();
        test.checks.end("ItemTest");
    }

    private void items() {
        FlameBend x = new FlameBend();
        for (int line : new int[] {-1, 8, LOW, HIGH}) {
            checks.due("17 no such LINE", x.item(line, 1, true, false), -1);
            checks.due("17 UNKNOWN ahead of OUTSIDE", x.item(line, 0, true, false), -1);
        }
        for (int strength : new int[] {0, 10, LOW, HIGH}) {
            checks.due("17 OUTSIDE", x.item(0, strength, true, false), -2);
        }
        for (int n = 0; n < 10; n++) {
            checks.due("17 number", x.item(n % 8, n % 9 + 1, n % 2 == 0, n % 3 == 0), n);
        }
        checks.due("17 full", x.item(0, 1, false, false), -4);
        checks.due("17 UNKNOWN ahead of FULL", x.item(8, 1, false, false), -1);
        checks.due("17 OUTSIDE ahead of FULL", x.item(0, 10, false, false), -2);
        checks.due("17 told", x.told(2), 10);
        checks.due("17 WORK stays", x.told(1), 0);
        FlameBend y = new FlameBend();
        y.item(3, 2, true, true);
        // -25 at column 4 misses a wish of -25 by nothing
        Checks.wishFold(y, -25);
        checks.due("17 water and back", y.next(1), 0);
    }

    private void chosenFewest() {
        FlameBend x = new FlameBend();
        Checks.wishFold(x, 30);
        checks.due("18 no ITEMS: the empty set", x.chosen(120, 0), 0);
        checks.due("18 its WORST", x.chosen(120, 1), 120);
        checks.due("18 no ITEMS: NO", x.chosen(119, 0), -5);
        x.item(3, 1, false, false);
        x.item(3, 2, false, false);
        x.item(3, 4, false, true);
        x.item(3, 3, false, false);
        // 10; 20; -40; 30 at first, less behind others
        checks.due("18 one for nothing missed", x.chosen(0, 0), 8);
        checks.due("18 its WORST", x.chosen(0, 1), 0);
        checks.due("18 one, the least WORST", x.chosen(100, 0), 8);
        checks.due("18 the empty set is fewest", x.chosen(120, 0), 0);
        checks.due("18 most of all", x.chosen(100000000, 0), 0);
        Checks.wishFold(x, 24);
        // 10 and 14 (20 by 70 percent) make 24
        checks.due("18 two", x.chosen(0, 0), 3);
        checks.due("18 two, WORST", x.chosen(0, 1), 0);
        checks.due("18 one will do for 16", x.chosen(16, 0), 2);
        checks.due("18 one, WORST", x.chosen(16, 1), 16);
        checks.due("18 the WORK stays", x.worst(), 96);
    }

    private void chosenTies() {
        FlameBend x = new FlameBend();
        Checks.wishFold(x, 20);
        x.item(3, 1, false, false);
        x.item(3, 3, false, false);
        x.item(3, 1, false, false);
        // 10 and 30 miss 20 by the same
        checks.due("18 least as bits", x.chosen(40, 0), 1);
        checks.due("18 two: 10 and 7, not 10 and 21", x.chosen(39, 0), 5);
        checks.due("18 their WORST", x.chosen(39, 1), 12);
    }

    private void chosenInOrder() {
        FlameBend x = new FlameBend();
        x.item(3, 2, false, false);
        x.item(3, 4, false, false);
        // in order of numbers: 20 and 28 (40 by 70 percent), not 40 and 14
        Checks.wishFold(x, 48);
        checks.due("18 in order of numbers", x.chosen(0, 0), 3);
        Checks.take(x, "h11;h11b");
        x.set(2, 0);
        // two crossing PASSES that undo one another leave 90 percent: 18 and 36
        Checks.wishFold(x, 54);
        checks.due("18 behind THE WORK", x.chosen(0, 0), 3);
        checks.due("18 behind THE WORK, WORST", x.chosen(0, 1), 0);
    }

    private void chosenRefused() {
        FlameBend x = new FlameBend();
        for (int most : new int[] {-1, 100000001, LOW, HIGH}) {
            checks.due("18 most", x.chosen(most, 0), -2);
        }
        for (int what : new int[] {-1, 2, LOW, HIGH}) {
            checks.due("18 what", x.chosen(0, what), -2);
        }
        x.wish(14, 1);
        checks.due("18 NO", x.chosen(4, 0), -5);
        checks.due("18 NO, WORST", x.chosen(4, 1), -5);
        checks.due("18 OUTSIDE ahead of NO", x.chosen(4, 2), -2);
    }

    private void nexts() {
        FlameBend x = new FlameBend();
        Checks.wishFold(x, 30);
        checks.due("19 no ITEMS", x.next(0), -6);
        checks.due("19 no ITEMS, WORST", x.next(1), -6);
        x.item(3, 1, false, true);
        checks.due("19 none lowers WORST", x.next(0), -6);
        x.item(3, 2, false, false);
        x.item(3, 4, false, false);
        checks.due("19 the first of two alike", x.next(0), 1);
        checks.due("19 its WORST", x.next(1), 40);
        x.item(3, 2, true, false);
        checks.due("19 a better one", x.next(0), 3);
        checks.due("19 its WORST", x.next(1), 20);
        Checks.take(x, "v42w");
        // behind it 40 by 70 percent is 28: too much by 23; 14 by 9; 17 by 12
        checks.due("19 behind THE WORK", x.next(0), -6);
        x.item(3, 1, false, false);
        checks.due("19 7 of it", x.next(0), 4);
        checks.due("19 misses by 2", x.next(1), 8);
        for (int what : new int[] {-1, 2, LOW, HIGH}) {
            checks.due("19 OUTSIDE", x.next(what), -2);
            checks.due("19 OUTSIDE ahead of NONE", new FlameBend().next(what), -2);
        }
        checks.due("19 WORK stays", x.told(1), 1);
        checks.due("19 WORST stays", x.worst(), 20);
    }

    private void nextStep() {
        FlameBend x = new FlameBend();
        Checks.wishFold(x, 30);
        x.item(3, 2, false, false);
        x.set(3, 80);
        checks.due("19 lowered by STEP", x.next(0), 0);
        x.set(3, 81);
        checks.due("19 lowered by less", x.next(0), -6);
        checks.due("20 lowered by less", x.steps(0), 0);
        checks.due("20 WORST then", x.steps(1), 120);
        x.set(3, 100000);
        checks.due("19 greatest STEP", x.next(0), -6);
        // an ITEM that bends nothing lowers WORST by less than 1
        FlameBend y = new FlameBend();
        Checks.wishFold(y, 30);
        y.table(1, 0, 0);
        y.item(3, 1, false, false);
        checks.due("19 lowered by nothing", y.next(0), -6);
    }

    private void stepsDone() {
        FlameBend x = new FlameBend();
        Checks.wishFold(x, 30);
        checks.due("20 no ITEMS", x.steps(0), 0);
        checks.due("20 no ITEMS, WORST", x.steps(1), 120);
        x.item(3, 1, false, false);
        // 10, 7, 4, 1, and nothing more
        checks.due("20 an ITEM more than once", x.steps(0), 4);
        checks.due("20 WORST", x.steps(1), 32);
        x.set(3, 5);
        checks.due("20 till STEP", x.steps(0), 3);
        checks.due("20 till STEP, WORST", x.steps(1), 36);
        x.set(3, 1);
        x.set(2, 0);
        checks.due("20 without AGAIN", x.steps(0), 3);
        Checks.wishFold(x, 300);
        checks.due("20 at most 20", x.steps(0), 20);
        checks.due("20 at most 20, WORST", x.steps(1), 400);
        for (int what : new int[] {-1, 2, LOW, HIGH}) {
            checks.due("20 OUTSIDE", x.steps(what), -2);
        }
        checks.due("20 WORK stays", x.told(1), 0);
        checks.due("20 BENDS stay", x.bend(3), 0);
    }

    /** BENDS of 1 at column 1 and 2 at column 4 miss by 9, with 1 there by 5, with 0 there by 4. */
    private void betterByOne() {
        FlameBend x = Checks.working("v11;v42");
        x.set(2, 0);
        x.table(1, 0, 1);
        x.table(2, 0, 2);
        x.item(3, 1, false, true);
        x.item(3, 2, false, true);
        checks.due("14 miss by 9", x.worst(), 9);
        checks.due("19 better by 1", x.next(0), 1);
        checks.due("19 better by 1, WORST", x.next(1), 4);
        checks.due("18 better by 1", x.chosen(8, 0), 2);
        checks.due("18 better by 1, WORST", x.chosen(8, 1), 4);
        checks.due("18 just that", x.chosen(4, 0), 2);
        // both leave -1 there, which misses by 3
        checks.due("18 both", x.chosen(3, 0), 3);
        checks.due("18 none", x.chosen(2, 0), -5);
        FlameBend y = Checks.working("v11;v41");
        y.table(1, 0, 1);
        y.set(2, 0);
        y.item(3, 1, false, true);
        checks.due("14 miss by 5", y.worst(), 5);
        checks.due("19 lowered by 1", y.next(0), 0);
        y.set(3, 2);
        checks.due("19 lowered by less than 2", y.next(0), -6);
    }

    private void allTen() {
        FlameBend x = new FlameBend();
        x.set(2, 0);
        for (int n = 0; n < 10; n++) {
            x.item(3, 1, false, false);
        }
        Checks.wishFold(x, 100);
        checks.due("18 all ten", x.chosen(0, 0), 1023);
        checks.due("18 nine, the least as bits", x.chosen(40, 0), 511);
        checks.due("18 five, the least as bits", x.chosen(200, 0), 31);
    }

    private void beyondTwelve() {
        FlameBend x = Checks.working("v41;v41;v41;v41;v41;v41;v41;v41;v41;v41;v41;v41");
        x.set(2, 0);
        Checks.wishFold(x, 200);
        x.item(3, 1, false, false);
        x.item(3, 2, false, false);
        checks.due("20 behind 12 PASSES", x.steps(0), 4);
        checks.due("20 behind 12 PASSES, WORST", x.steps(1), 0);
        checks.due("19 behind 12 PASSES", x.next(0), 1);
        checks.due("18 behind 12 PASSES", x.chosen(200, 0), 3);
        checks.due("20 THE WORK stays", x.told(1), 12);
    }
}
