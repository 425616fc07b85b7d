/** Promises 30 and 31: WELDS, and THE BEST ORDER of them. */
final class WeldTest {
    private static final int LOW = Integer.MIN_VALUE, HIGH = Integer.MAX_VALUE;
    private final Checks checks = new Checks();

    public static void main(String[] args) {
        WeldTest test = new WeldTest();
        test.welds();
        test.noWelds();
        test.orders();
        test.cut();
        test.ties();
        test.followsChanges();
        test.betterByOne();
        test.seven();
        test.checks.end("WeldTest");
    }

    private void bestOrder(FlameBend x, int worst, int... numbers) {
        checks.due("31 WORST", x.order(-1), worst);
        for (int i = 0; i < numbers.length; i++) {
            checks.due("31 at " + i, x.order(i), numbers[i]);
        }
        for (int i : new int[] {numbers.length, -2, LOW, HIGH}) {
            checks.due("31 NONE", x.order(i), -6);
        }
    }

    private void welds() {
        FlameBend x = new FlameBend();
        for (int line : new int[] {-1, 8, LOW, HIGH}) {
            checks.due("30 no such LINE", x.weld(line, 1), -1);
            checks.due("30 UNKNOWN ahead of OUTSIDE", x.weld(line, 501), -1);
        }
        for (int pull : new int[] {-501, 501, LOW, HIGH}) {
            checks.due("30 OUTSIDE", x.weld(0, pull), -2);
        }
        int[] pulls = {-500, 500, 0, 1, 2, 3, 4};
        for (int n = 0; n < 7; n++) {
            checks.due("30 number", x.weld(n, pulls[n]), n);
        }
        checks.due("30 full", x.weld(0, 1), -4);
        checks.due("30 UNKNOWN ahead of FULL", x.weld(8, 1), -1);
        checks.due("30 OUTSIDE ahead of FULL", x.weld(0, 501), -2);
        checks.due("30 told", x.told(4), 7);
        checks.due("30 BENDS stay", x.bend(0), 0);
    }

    private void noWelds() {
        FlameBend x = Checks.working("v21");
        bestOrder(x, 60);
    }

    private void orders() {
        FlameBend x = new FlameBend();
        x.weld(3, 100);
        x.weld(3, 50);
        x.weld(3, 20);
        // a share of 100, 90, 80 percent each
        Checks.wishFold(x, 100 + 45 + 16);
        bestOrder(x, 0, 0, 1, 2);
        Checks.wishFold(x, 80 + 45 + 20);
        bestOrder(x, 0, 2, 1, 0);
        Checks.wishFold(x, 90 + 50 + 16);
        bestOrder(x, 0, 1, 0, 2);
        x.set(5, 30);
        Checks.wishFold(x, 70 + 20 + 20);
        bestOrder(x, 0, 2, 0, 1);
        Checks.take(x, "v45");
        Checks.wishFold(x, 50 + 70 + 20 + 20);
        bestOrder(x, 0, 2, 0, 1);
        checks.due("31 WORST of WORK stays", x.worst(), 440);
        checks.due("31 the WELDS take no PART", x.pass(0, 4), 100);
    }

    private void cut() {
        FlameBend x = new FlameBend();
        x.weld(0, 0);
        x.weld(3, -19);
        // 17.1 is cut to 17, towards 0
        Checks.wishFold(x, -17);
        bestOrder(x, 0, 0, 1);
        Checks.wishFold(x, -19);
        bestOrder(x, 0, 1, 0);
    }

    private void ties() {
        FlameBend x = new FlameBend();
        x.weld(3, 40);
        x.weld(3, 40);
        x.weld(3, 40);
        bestOrder(x, 4 * (40 + 36 + 32), 0, 1, 2);
        x.set(5, 0);
        x.weld(0, 10);
        checks.due("31 all alike", x.order(0), 0);
        checks.due("31 all alike, last", x.order(3), 3);
    }

    private void followsChanges() {
        FlameBend x = new FlameBend();
        x.weld(3, 100);
        bestOrder(x, 400, 0);
        x.wish(4, 20);
        bestOrder(x, 500, 0);
        x.wish(4, 0);
        bestOrder(x, 400, 0);
        x.weld(3, -200);
        bestOrder(x, 320, 0, 1);
        x.set(5, 30);
        bestOrder(x, 160, 0, 1);
        Checks.take(x, "v41");
        bestOrder(x, 120, 0, 1);
        x.table(1, 0, 20);
        bestOrder(x, 80, 0, 1);
        x.strike(1);
        bestOrder(x, 160, 0, 1);
        Checks.take(x, "v41;v41");
        bestOrder(x, 24, 0, 1);
        x.set(2, 100);
        bestOrder(x, 80, 0, 1);
    }

    /** A BEND of 1 at column 1 misses by 4, with 1 at column 4 by 5. */
    private void betterByOne() {
        FlameBend x = Checks.working("v11");
        x.table(1, 0, 1);
        x.weld(3, 1);
        x.weld(7, 0);
        bestOrder(x, 4, 1, 0);
    }

    private void seven() {
        FlameBend x = new FlameBend();
        int[] pulls = {10, 20, 40, 80, 160, 320, 500};
        for (int pull : pulls) {
            x.weld(3, pull);
        }
        // the greatest first bends most, the least first bends least
        Checks.wishFold(x, 100000);
        checks.due("31 seven", x.order(-1), 4 * (100000 - 500 - 288 - 128 - 56 - 24 - 10 - 4));
        for (int i = 0; i < 7; i++) {
            checks.due("31 seven, at " + i, x.order(i), 6 - i);
        }
        Checks.wishFold(x, -100000);
        checks.due("31 seven", x.order(-1), 4 * (100000 + 10 + 18 + 32 + 56 + 96 + 160 + 200));
        for (int i = 0; i < 7; i++) {
            checks.due("31 seven, at " + i, x.order(i), i);
        }
        x.set(5, 30);
        // from the fifth on nothing is bent: 100, 70, 40 and 10 percent of the least; the rest by numbers
        checks.due("31 seven, stiff", x.order(-1), 4 * (100000 + 10 + 14 + 16 + 8));
        checks.due("31 seven, stiff", x.order(6), 6);
        Checks.wishFold(x, 100000);
        checks.due("31 seven, stiff", x.order(-1), 4 * (100000 - 500 - 224 - 64 - 8));
        int[] want = {6, 5, 4, 3, 0, 1, 2};
        for (int i = 0; i < 7; i++) {
            checks.due("31 seven, stiff, at " + i, x.order(i), want[i]);
        }
    }
}
