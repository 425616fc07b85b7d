/** Promises 30 and 31 at their edges. */
final class WeldEdgeTest {
    private static final int LOW = Integer.MIN_VALUE, HIGH = Integer.MAX_VALUE;
    private final Checks checks = new Checks();
    private final Edges edges = new Edges(checks);

    public static void main(String[] args) {
        WeldEdgeTest test = new WeldEdgeTest();
        test.weldNumbers();
        test.weldRefusals();
        test.orderNumbers();
        test.noWelds();
        test.eachPlace();
        test.stiffNotBelowZero();
        test.cut();
        test.ties();
        test.betterByOne();
        test.followsChanges();
        test.ends();
        test.checks.end("WeldEdgeTest");
    }

    /** Wishes a fold at column 4 of so much: a BEND b there misses it by 4 times the difference. */
    private void fold(int v) {
        Checks.wishFold(edges.object(), v);
    }

    private void bestOrder(int worst, int... numbers) {
        edges.due("order(-1)", worst);
        for (int i = 0; i < numbers.length; i++) {
            edges.due("order(" + i + ")", numbers[i]);
        }
        edges.dueEach("order(%)", new int[] {numbers.length, -2, LOW, HIGH}, -6);
    }

    private void weldNumbers() {
        edges.anew("30 numbered from 0 on, 7 at most");
        for (int n = 0; n < 7; n++) {
            edges.due("told(4)", n);
            edges.due("weld(" + n + ", " + n + ")", n);
        }
        edges.dueEach("weld(0, %)", new int[] {-500, 0, 500}, -4);
        edges.due("told(4)", 7);
        edges.also("30 of UNKNOWN, OUTSIDE and FULL the first");
        edges.dueEach("weld(%, 0)", new int[] {-1, 8, LOW, HIGH}, -1);
        edges.dueEach("weld(%, 501)", new int[] {-1, 8, LOW, HIGH}, -1);
        edges.dueEach("weld(0, %)", new int[] {-501, 501, LOW, HIGH}, -2);
        edges.due("told(4)", 7);
    }

    private void weldRefusals() {
        edges.anew("30 LINES 0 to 7");
        edges.dueEach("weld(%, 1)", new int[] {-1, 8, LOW, HIGH}, -1);
        edges.due("weld(0, 1)", 0);
        edges.due("weld(7, 1)", 1);
        edges.also("30 pulls -500 to 500");
        edges.dueEach("weld(0, %)", new int[] {-501, 501, LOW, HIGH}, -2);
        edges.due("weld(0, -500)", 2);
        edges.due("weld(0, 500)", 3);
        edges.due("weld(0, 0)", 4);
        edges.also("30 of UNKNOWN and OUTSIDE the first");
        edges.dueEach("weld(8, %)", new int[] {-501, 501, LOW, HIGH}, -1);
        edges.dueEach("weld(-1, %)", new int[] {-501, 501, LOW, HIGH}, -1);
        edges.due("told(4)", 5);
    }

    private void orderNumbers() {
        edges.anew("31 i from -1 to the last", "weld(3, 10)", "weld(3, 20)");
        fold(28);
        bestOrder(0, 0, 1);
        fold(29);
        bestOrder(0, 1, 0);
        edges.anew("31 one WELD", "weld(3, 10)");
        fold(10);
        bestOrder(0, 0);
        edges.anew("31 a refused WELD is in no order", "weld(3, 10)", "weld(8, 20)", "weld(3, 501)");
        fold(10);
        bestOrder(0, 0);
        edges.anew("31 a WELD too many is in no order", "weld(3, 10)", "weld(3, 0)", "weld(3, 0)", "weld(3, 0)",
            "weld(3, 0)", "weld(3, 0)", "weld(3, 0)", "weld(3, 500)");
        fold(10);
        bestOrder(0, 0, 1, 2, 3, 4, 5, 6);
    }

    private void noWelds() {
        edges.anew("31 no WELDS: WORST of THE WORK");
        bestOrder(0);
        edges.anew("31 no WELDS, WORK and a WISH", "say v41", "take()");
        fold(15);
        bestOrder(20);
    }

    /** One WELD that pulls, among six that do not: each place that it can have. */
    private void eachPlace() {
        edges.anew("31 as the k-th one", "weld(3, 100)", "weld(0, 0)", "weld(1, 0)", "weld(2, 0)", "weld(4, 0)",
            "weld(5, 0)", "weld(6, 0)");
        int[] bends = {100, 90, 80, 70, 60, 50, 40};
        for (int place = 0; place < 7; place++) {
            fold(bends[place]);
            bestOrder(0, placed(place));
        }
    }

    /** WELD 0 at a place, the others by numbers. */
    private static int[] placed(int place) {
        int[] order = new int[7];
        for (int i = 0; i < 7; i++) {
            order[i] = i < place ? i + 1 : i == place ? 0 : i;
        }
        return order;
    }

    private void stiffNotBelowZero() {
        edges.anew("31 not below 0: STIFF 30", "weld(3, 100)", "weld(0, 0)", "weld(1, 0)", "weld(2, 0)", "weld(4, 0)",
            "weld(5, 0)", "weld(6, 0)", "set(5, 30)");
        fold(10);
        bestOrder(0, placed(3));
        fold(0);
        bestOrder(0, placed(4));
        fold(-20);
        bestOrder(80, placed(4));
        edges.also("31 just 0: STIFF 25");
        edges.due("set(5, 25)", 30);
        fold(25);
        bestOrder(0, placed(3));
        fold(0);
        bestOrder(0, placed(4));
        fold(-25);
        bestOrder(100, placed(4));
        edges.also("31 just above and below 0: STIFF 17");
        edges.due("set(5, 17)", 25);
        fold(15);
        bestOrder(0, placed(5));
        fold(0);
        bestOrder(0, placed(6));
        fold(-2);
        bestOrder(8, placed(6));
        edges.also("31 STIFF 0: all orders are alike");
        edges.due("set(5, 0)", 17);
        fold(0);
        bestOrder(400, 0, 1, 2, 3, 4, 5, 6);
        edges.also("31 a refused STIFF changes nothing");
        edges.due("set(5, 31)", -2);
        edges.due("set(5, -1)", -2);
        bestOrder(400, 0, 1, 2, 3, 4, 5, 6);
    }

    private void cut() {
        edges.anew("31 cut towards 0", "weld(3, 199)", "weld(0, 0)", "set(5, 1)");
        // 197.01
        fold(197);
        bestOrder(0, 1, 0);
        fold(199);
        bestOrder(0, 0, 1);
        edges.anew("31 cut towards 0, below 0", "weld(3, -199)", "weld(0, 0)", "set(5, 1)");
        fold(-197);
        bestOrder(0, 1, 0);
        fold(-198);
        bestOrder(4, 0, 1);
        edges.anew("31 less than 1 is cut to 0", "weld(3, 1)", "weld(0, 0)", "set(5, 1)");
        bestOrder(0, 1, 0);
        edges.anew("31 more than -1 is cut to 0", "weld(3, -1)", "weld(0, 0)", "set(5, 1)");
        bestOrder(0, 1, 0);
    }

    private void ties() {
        edges.anew("31 of the least WORST the first by numbers", "weld(3, 50)", "weld(3, 50)", "weld(3, 50)",
            "weld(3, 50)", "weld(3, 50)", "weld(3, 50)", "weld(3, 50)");
        // 50, 45, 40, 35, 30, 25, 20
        fold(245);
        bestOrder(0, 0, 1, 2, 3, 4, 5, 6);
        edges.anew("31 alike from both sides", "weld(3, 20)", "weld(3, 40)");
        // 20 and 36, or 40 and 18: 57 is between them
        fold(57);
        bestOrder(4, 0, 1);
        fold(58);
        bestOrder(0, 1, 0);
        edges.anew("31 the first and the last of all orders", "weld(3, 10)", "weld(3, 20)", "weld(3, 40)", "weld(3, 80)",
            "weld(3, 160)", "weld(3, 320)", "weld(3, 500)");
        fold(-100000);
        bestOrder(4 * (100000 + 10 + 18 + 32 + 56 + 96 + 160 + 200), 0, 1, 2, 3, 4, 5, 6);
        fold(100000);
        bestOrder(4 * (100000 - 500 - 288 - 128 - 56 - 24 - 10 - 4), 6, 5, 4, 3, 2, 1, 0);
        edges.anew("31 the second number decides", "weld(0, 0)", "weld(3, 10)", "weld(3, 20)");
        // behind the first: 9 and 16, or 18 and 8
        fold(26);
        bestOrder(0, 0, 2, 1);
    }

    /** A BEND of 1 at column 1 misses by 4, with 1 at column 4 by 5. */
    private void betterByOne() {
        edges.anew("31 the least WORST, less by just 1", "say v11", "take()", "table(1, 0, 1)", "weld(3, 1)", "weld(7, 0)");
        bestOrder(4, 1, 0);
    }

    /** What was found before an order was asked for holds no more when anything that it comes of changes. */
    private void followsChanges() {
        edges.anew("31 behind each change", "weld(3, 100)", "say v41", "take()");
        bestOrder(440, 0);
        edges.due("table(1, 0, 20)", 10);
        bestOrder(480, 0);
        edges.due("wish(4, 10)", 0);
        bestOrder(530, 0);
        edges.due("strike(1)", 0);
        bestOrder(450, 0);
        edges.due("weld(3, -100)", 1);
        // -100 and 90 leave -10, which is 10 the other way from the WISH
        bestOrder(40, 1, 0);
        edges.due("set(5, 0)", 10);
        bestOrder(50, 0, 1);
        edges.due("say v41", 3);
        bestOrder(50, 0, 1);
        edges.due("take()", 1);
        bestOrder(130, 0, 1);
    }

    private void ends() {
        edges.anew("31 the greatest pulls", "weld(3, 500)", "weld(3, 500)", "weld(3, 500)", "weld(3, 500)", "weld(3, 500)",
            "weld(3, 500)", "weld(3, 500)", "set(5, 0)");
        bestOrder(14000, 0, 1, 2, 3, 4, 5, 6);
        fold(3500);
        bestOrder(0, 0, 1, 2, 3, 4, 5, 6);
        edges.anew("31 the least pull", "weld(3, -500)");
        fold(-500);
        bestOrder(0, 0);
        edges.anew("31 behind a full WORK", "say v41;v41;v41;v41;v41;v41;v41;v41;v41;v41;v41;v41", "take()", "set(2, 0)",
            "weld(3, 30)");
        fold(150);
        bestOrder(0, 0);
        edges.due("told(1)", 12);
        edges.due("worst()", 120);
        edges.anew("31 the farthest WISH", "wish(0, 100000)", "wish(35, 100000)", "wish(5, -100000)", "wish(30, -100000)",
            "weld(3, 0)");
        bestOrder(2000000, 0);
    }
}
