/** Promises 1 to 11: a new object, the text of ORDERS, THE WORK, the TABLE, BENDS and HEIGHTS. */
final class WorkTest {
    private static final int LOW = Integer.MIN_VALUE, HIGH = Integer.MAX_VALUE;
    private static final String TWELVE = "v11;v11;v11;v11;v11;v11;v11;v11;v11;v11;v11;v11";
    private final Checks checks = new Checks();

    public static void main(String[] args) {
        WorkTest test = new WorkTest();
        test.newObject();
        test.constants();
        test.sayAndWipe();
        test.faults();
        test.takes();
        test.strikes();
        test.passes();
        test.parts();
        test.tables();
        test.sets();
        test.bends();
        test.heights();
        test.checks.end("WorkTest");
    }

    private void newObject() {
        FlameBend x = new FlameBend();
        for (int what = 0; what < 5; what++) {
            checks.due("1 told(" + what + ")", x.told(what), 0);
        }
        int[] first = {5, 10, 30, 1, 0, 10};
        for (int which = 0; which < 6; which++) {
            checks.due("1 set " + which, x.told(10 + which), first[which]);
        }
        for (int strength = 1; strength <= 9; strength++) {
            checks.due("1 TABLE dry", x.table(strength, 0, 0), 10 * strength);
            checks.due("1 TABLE wet", x.table(strength, 1, 0), 10 * strength + 5);
            checks.due("1 lower end", x.span(strength, 0), 0);
            checks.due("1 upper end", x.span(strength, 1), 1000);
        }
        for (int corner = 0; corner < 36; corner++) {
            checks.due("1 height", x.height(corner), 0);
            checks.due("1 flat", x.flat(corner), -2000000001);
            checks.due("1 wish", x.wish(corner, 0), 0);
        }
        checks.due("1 pass", x.pass(0, 0), -1);
        checks.due("1 steps", x.steps(0), 0);
        checks.due("1 next", x.next(0), -6);
        checks.due("1 order", x.order(-1), 0);
        checks.due("1 shared", x.shared(3, -1), 0);
    }

    private void constants() {
        checks.due("UNKNOWN", FlameBend.UNKNOWN, -1);
        checks.due("OUTSIDE", FlameBend.OUTSIDE, -2);
        checks.due("STATE", FlameBend.STATE, -3);
        checks.due("FULL", FlameBend.FULL, -4);
        checks.due("NO", FlameBend.NO, -5);
        checks.due("NONE", FlameBend.NONE, -6);
        checks.due("LOST", FlameBend.LOST, -2000000000);
    }

    private void sayAndWipe() {
        FlameBend x = new FlameBend();
        checks.due("3 nothing there", x.wipe(), 0);
        for (int sign : new int[] {32, 127, 0, -1, 118 + 256, 118 + 65536, LOW, HIGH}) {
            checks.due("2 sign " + sign, x.say(sign), -2);
        }
        checks.due("2 least sign", x.say(33), 1);
        checks.due("2 greatest sign", x.say(126), 2);
        for (int n = 3; n <= 50; n++) {
            checks.due("2 sign " + n, x.say('v'), n);
        }
        checks.due("2 full", x.say('v'), -4);
        checks.due("2 OUTSIDE ahead of FULL", x.say(32), -2);
        checks.due("2 told", x.told(0), 50);
        checks.due("3 all", x.wipe(), 50);
        checks.due("3 told", x.told(0), 0);
        checks.due("3 again", x.wipe(), 0);
        checks.due("2 after it", x.say('v'), 1);
        checks.due("4 after it", x.fault(), 1);
    }

    private void faults() {
        faultOf("", 0);
        faultOf("x", 0);
        faultOf("V", 0);
        faultOf(";", 0);
        faultOf("1", 0);
        faultOf("v", 1);
        faultOf("h", 1);
        faultOf("v0", 1);
        faultOf("v5", 1);
        faultOf("vv", 1);
        faultOf("v1", 2);
        faultOf("v4", 2);
        faultOf("v10", 2);
        faultOf("v1w", 2);
        faultOf("v1:", 2);
        faultOf("v11", -6);
        faultOf("h49", -6);
        faultOf("v111", 3);
        faultOf("v11v", 3);
        faultOf("v11W", 3);
        faultOf("v11w", -6);
        faultOf("v11b", -6);
        faultOf("v11wb", -6);
        faultOf("v11ww", 4);
        faultOf("v11bw", 4);
        faultOf("v11bb", 4);
        faultOf("v11wbw", 5);
        faultOf("v11wbb", 5);
        faultOf("v11;", 4);
        faultOf("v11w;", 5);
        faultOf("v11b;", 5);
        faultOf("v11wb;", 6);
        faultOf("v11;;", 4);
        faultOf("v11;h", 5);
        faultOf("v11;h3", 6);
        faultOf("v11;h35", -6);
        faultOf("v11;h3x!!!", 6);
        faultOf("xv11", 0);
        faultOf(TWELVE, -6);
        faultOf(TWELVE + ";v1", 50);
        faultOf(TWELVE + "w;v", 50);
        faultOf(TWELVE + "wb;", 50);
        faultOf(TWELVE + "wbb", 49);
    }

    private void faultOf(String orders, int want) {
        FlameBend x = new FlameBend();
        Checks.say(x, orders);
        checks.due("4 fault of " + orders, x.fault(), want);
        checks.due("4 signs stay", x.told(0), orders.length());
        if (want != -6) {
            checks.due("5 NO to " + orders, x.take(), -5);
            checks.due("5 signs stay", x.told(0), orders.length());
            checks.due("5 WORK stays", x.told(1), 0);
        }
    }

    private void takes() {
        FlameBend x = new FlameBend();
        checks.due("5 first", Checks.take(x, "v23wb;h35"), 2);
        checks.due("5 signs are empty", x.told(0), 0);
        checks.due("5 none said", x.take(), -5);
        checks.due("5 behind", Checks.take(x, "h11"), 3);
        checks.due("5 the first stays", x.pass(0, 0), 1);
        checks.due("5 the last", x.pass(2, 0), 4);
        Checks.take(x, "v11;v12;v13;v14;v15;v16;v17;v18");
        checks.due("5 eleven", x.told(1), 11);
        checks.due("5 thirteen", Checks.take(x, "v31;v32"), -4);
        checks.due("5 signs stay", x.told(0), 7);
        checks.due("5 WORK stays", x.told(1), 11);
        x.wipe();
        checks.due("5 twelve", Checks.take(x, "v49"), 12);
        checks.due("5 none said, WORK full", x.take(), -5);
        checks.due("5 full", Checks.take(x, "v49"), -4);
        checks.due("5 a fault, WORK full", Checks.take(x, "v"), -5);
        FlameBend y = new FlameBend();
        checks.due("5 twelve at once", Checks.take(y, TWELVE), 12);
    }

    private void strikes() {
        FlameBend x = Checks.working("v11;h22;v33");
        checks.due("6 below", x.strike(-1), -2);
        checks.due("6 above", x.strike(4), -2);
        checks.due("6 least", x.strike(LOW), -2);
        checks.due("6 most", x.strike(HIGH), -2);
        checks.due("6 none", x.strike(0), 3);
        checks.due("6 one", x.strike(1), 2);
        checks.due("6 it was the last", x.bend(2), 0);
        checks.due("6 others stay", x.pass(1, 0), 5);
        checks.due("6 gone", x.pass(2, 0), -1);
        checks.due("6 all", x.strike(2), 0);
        checks.due("6 of none", x.strike(0), 0);
        checks.due("6 more than none", x.strike(1), -2);
        checks.due("6 behind it", Checks.take(x, "h41"), 1);
        checks.due("6 anew", x.pass(0, 0), 7);
    }

    private void passes() {
        FlameBend x = Checks.working("v23wb;h45;v49b;h11w");
        checks.row("7 v23wb", all(x, 0), 1, 3, 1, 1, 100, -35, 10);
        checks.row("7 h45", all(x, 1), 7, 5, 0, 0, 95, 47, 5);
        checks.row("7 v49b", all(x, 2), 3, 9, 0, 1, 95, -85, 1);
        checks.row("7 h11w", all(x, 3), 4, 1, 1, 0, 90, 13, 12);
        for (int i : new int[] {-1, 4, LOW, HIGH}) {
            checks.due("7 no such PASS", x.pass(i, 0), -1);
            checks.due("7 UNKNOWN ahead of OUTSIDE", x.pass(i, 7), -1);
        }
        for (int what : new int[] {-1, 7, LOW, HIGH}) {
            checks.due("7 what " + what, x.pass(3, what), -2);
        }
    }

    private static long[] all(FlameBend x, int i) {
        long[] told = new long[7];
        for (int what = 0; what < 7; what++) {
            told[what] = x.pass(i, what);
        }
        return told;
    }

    private void parts() {
        partsOf("v15;v15;v15;v15;v15", 100, 70, 40, 10, 0);
        partsOf("v15;v25;v35;v45;v15", 100, 90, 90, 90, 60);
        partsOf("v15;v35;v25", 100, 100, 80);
        partsOf("v45;h15;v45;h15", 100, 95, 65, 60);
        partsOf("h45;v15;h15;h35;h45", 100, 95, 95, 85, 55);
        partsOf("v15;v15b;v15w", 100, 70, 40);
        FlameBend x = Checks.working("v15;v25;h15;v15");
        checks.due("9 CROSSED", x.set(0, 30), 5);
        checks.due("7 PART, CROSSED", x.pass(2, 4), 40);
        checks.due("9 BESIDE", x.set(1, 50), 10);
        checks.due("7 PART, BESIDE", x.pass(1, 4), 50);
        checks.due("7 PART, not below 0", x.pass(3, 4), 0);
        checks.due("9 AGAIN", x.set(2, 0), 30);
        checks.due("7 PART, AGAIN", x.pass(3, 4), 20);
        checks.due("7 what it bends", x.pass(3, 5), 10);
        // 5 by 100 of 19 is cut towards 0 on either side
        FlameBend y = Checks.working("v13;h13b");
        y.table(3, 0, 19);
        checks.due("7 cut", y.pass(1, 5), -18);
    }

    private void partsOf(String orders, int... parts) {
        FlameBend x = Checks.working(orders);
        for (int i = 0; i < parts.length; i++) {
            checks.due("7 PART " + i + " of " + orders, x.pass(i, 4), parts[i]);
        }
    }

    private void tables() {
        FlameBend x = Checks.working("v13;v33w");
        checks.due("8 dry", x.table(3, 0, 1000), 30);
        checks.due("8 wet", x.table(3, 1, 0), 35);
        checks.due("8 dry bends", x.bend(0), 1000);
        checks.due("8 wet bends", x.bend(2), 0);
        int[][] wrong = {{0, 0, 1}, {10, 0, 1}, {LOW, 0, 1}, {HIGH, 0, 1}, {3, -1, 1}, {3, 2, 1}, {3, LOW, 1},
            {3, HIGH, 1}, {3, 0, -1}, {3, 0, 1001}, {3, 0, LOW}, {3, 0, HIGH}};
        for (int[] w : wrong) {
            checks.due("8 OUTSIDE", x.table(w[0], w[1], w[2]), -2);
        }
        checks.due("8 stays", x.table(3, 0, 5), 1000);
        checks.due("8 it was", x.table(3, 0, 6), 5);
        checks.due("8 first", x.table(1, 0, 6), 10);
        checks.due("8 last", x.table(9, 1, 6), 95);
    }

    private void sets() {
        FlameBend x = new FlameBend();
        int[] first = {5, 10, 30, 1, 0, 10};
        int[] least = {0, 0, 0, 1, 0, 0};
        int[] most = {30, 50, 100, 100000, 1000000, 30};
        for (int which = 0; which < 6; which++) {
            String name = "9 set " + which;
            checks.due(name + " below", x.set(which, least[which] - 1), -2);
            checks.due(name + " above", x.set(which, most[which] + 1), -2);
            checks.due(name + " far below", x.set(which, LOW), -2);
            checks.due(name + " far above", x.set(which, HIGH), -2);
            checks.due(name + " most", x.set(which, most[which]), first[which]);
            checks.due(name + " told", x.told(10 + which), most[which]);
            checks.due(name + " least", x.set(which, least[which]), most[which]);
            checks.due(name + " at first", x.set(which, first[which]), least[which]);
        }
        for (int which : new int[] {-1, 6, LOW, HIGH}) {
            checks.due("9 no such", x.set(which, 1), -2);
        }
        for (int which = 0; which < 6; which++) {
            checks.due("9 others stay", x.told(10 + which), first[which]);
        }
    }

    private void bends() {
        FlameBend x = Checks.working("v23wb;h35;v34;v23");
        checks.due("10 line 0", x.bend(0), 0);
        checks.due("10 line 1", x.bend(1), -19);
        checks.due("10 line 2", x.bend(2), 34);
        checks.due("10 line 6", x.bend(6), 47);
        checks.due("10 line 7", x.bend(7), 0);
        for (int line : new int[] {-1, 8, LOW, HIGH}) {
            checks.due("10 no such LINE", x.bend(line), -2000000001);
        }
    }

    private void heights() {
        FlameBend x = Checks.working("v11;h42;v39b");
        // BENDS: 10 at column 1, 19 at row 4, and -(90 times 95 by 100) = -85 at column 3
        int[] byColumn = {0, 0, 10, 20, 30 - 85, 40 - 170};
        for (int corner = 0; corner < 36; corner++) {
            int want = byColumn[corner % 6] + (corner / 6 == 5 ? 19 : 0);
            checks.due("11 height of " + corner, x.height(corner), want);
        }
        for (int corner : new int[] {-1, 36, LOW, HIGH}) {
            checks.due("11 no such CORNER", x.height(corner), -2000000001);
        }
    }
}
