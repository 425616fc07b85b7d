import java.util.List;

/** Calls that are refused change nothing: all that later calls tell is as it was (promises 2 to 33). */
final class RefusedTest {
    private static final int[] FAR = {Integer.MIN_VALUE, Integer.MAX_VALUE};
    /** Some of all, so that each call has something it could change; searched orders and sharings may be kept. */
    private static final String[] SOME = {"say v23wb;h35;v34;v23", "take()", "say h12;v3", "wish(14, 100)", "wish(35, 50)",
        "wish(5, -20)", "wish(0, 3)", "wish(21, -77)", "item(3, 1, false, false)", "item(5, 2, true, true)",
        "item(2, 4, false, true)", "item(6, 3, false, true)", "read(0, 1)", "read(5, 150)", "read(30, -4)", "read(1, 2)",
        "read(2, 9)", "read(3, 51)", "read(7, 5)", "read(8, 6)", "read(9, 8)", "read(15, 1)", "read(21, 2)", "read(27, 40)",
        "attempt(3, 30, 5)", "attempt(1, 0, 600)", "weld(0, 60)", "weld(5, 100)", "weld(2, -80)", "table(3, 0, 77)",
        "table(9, 1, 444)", "set(0, 7)", "set(1, 12)", "set(2, 25)", "set(3, 4)", "set(4, 20)", "set(5, 13)",
        "order(0)", "shared(2, 1)"};
    /** All full: 50 signs without a FAULT, 12 PASSES, 10 ITEMS, 7 WELDS. */
    private static final String[] FULL = {"say v11;h22b;v33;h44b;v41;h33;", "say(118)", "say(50)", "say(52)", "take()",
        "say v31b;v21;h12;h23b;h31", "take()", "say v11;v11;v11;v11;v11;v11;v11;v11;v11;v11;v11wb;v49b",
        "item(0, 1, false, false)", "item(1, 2, true, true)", "item(2, 4, false, true)", "item(3, 3, false, true)",
        "item(4, 1, false, false)", "item(5, 2, true, true)", "item(6, 4, false, true)", "item(7, 3, false, true)",
        "item(3, 9, true, false)", "item(5, 8, false, false)", "weld(0, 60)", "weld(5, 100)", "weld(2, -80)", "weld(3, 7)",
        "weld(7, -33)", "weld(1, 15)", "weld(4, -5)", "wish(14, 100)", "wish(35, -50)", "read(0, 5)", "read(5, 6)"};
    private final Checks checks = new Checks();

    public static void main(String[] args) {
        RefusedTest test = new RefusedTest();
        test.checks.due("the row of all full is full", Calls.made(FULL).told(1), 12);
        test.unknowns();
        test.outsides();
        test.states();
        test.fulls();
        test.noes();
        test.nones();
        test.asking();
        test.checks.end("RefusedTest");
    }

    private void refused(String promise, String[] ahead, String call, long want) {
        checks.due(promise + ": " + call, Calls.answer(Calls.made(ahead), call), want);
        sameBehind(promise, ahead, call);
    }

    /** What is told behind a call, held against what is told without it. */
    private void sameBehind(String promise, String[] ahead, String call) {
        List<String> without = Told.of(() -> Calls.made(ahead));
        List<String> behind = Told.of(() -> {
            FlameBend x = Calls.made(ahead);
            Calls.answer(x, call);
            return x;
        });
        checks.due(promise + ": " + call + " changes nothing, rows", behind.size(), without.size());
        for (int i = 0; i < Math.min(without.size(), behind.size()); i++) {
            boolean same = without.get(i).equals(behind.get(i));
            checks.due(promise + ": behind " + call + " told is " + behind.get(i) + ", not " + without.get(i),
                same ? 1 : 0, 1);
        }
    }

    private void refusedEach(String promise, String call, int low, int high, long want) {
        for (String[] ahead : new String[][] {SOME, FULL}) {
            for (int number : new int[] {low, high, FAR[0], FAR[1]}) {
                refused(promise, ahead, call.replace("%", Integer.toString(number)), want);
            }
        }
    }

    private void unknowns() {
        refusedEach("7 UNKNOWN", "pass(%, 0)", -1, 12, -1);
        refusedEach("10 UNKNOWN", "bend(%)", -1, 8, -2000000001);
        refusedEach("11 UNKNOWN", "height(%)", -1, 36, -2000000001);
        refusedEach("12 UNKNOWN", "wish(%, 5)", -1, 36, -2000000001);
        refusedEach("13 UNKNOWN", "miss(%)", -1, 36, -2000000001);
        refusedEach("15 UNKNOWN", "twist(%)", 5, 30, -2000000001);
        refusedEach("17 UNKNOWN", "item(%, 5, true, true)", -1, 8, -1);
        refusedEach("21 UNKNOWN", "read(%, 5)", -1, 36, -1);
        refusedEach("22 UNKNOWN", "forget(%)", -1, 36, -1);
        refusedEach("23 UNKNOWN", "flat(%)", -1, 35, -2000000001);
        refusedEach("25 UNKNOWN", "bendRead(%, 0)", -1, 8, -2000000001);
        refusedEach("30 UNKNOWN", "weld(%, 5)", -1, 8, -1);
    }

    private void outsides() {
        refusedEach("2 OUTSIDE", "say(%)", 32, 127, -2);
        refusedEach("6 OUTSIDE", "strike(%)", -1, 13, -2);
        refused("6 OUTSIDE", SOME, "strike(5)", -2);
        refusedEach("7 OUTSIDE", "pass(0, %)", -1, 7, -2);
        refusedEach("8 OUTSIDE", "table(%, 0, 5)", 0, 10, -2);
        refusedEach("8 OUTSIDE", "table(3, %, 5)", -1, 2, -2);
        refusedEach("8 OUTSIDE", "table(3, 1, %)", -1, 1001, -2);
        refusedEach("9 OUTSIDE", "set(%, 1)", -1, 6, -2);
        int[] least = {0, 0, 0, 1, 0, 0};
        int[] most = {30, 50, 100, 100000, 1000000, 30};
        for (int which = 0; which < 6; which++) {
            refusedEach("9 OUTSIDE", "set(" + which + ", %)", least[which] - 1, most[which] + 1, -2);
        }
        refusedEach("12 OUTSIDE", "wish(14, %)", -100001, 100001, -2000000002);
        refusedEach("17 OUTSIDE", "item(0, %, true, true)", 0, 10, -2);
        refusedEach("18 OUTSIDE", "chosen(%, 0)", -1, 100000001, -2);
        refusedEach("18 OUTSIDE", "chosen(5, %)", -1, 2, -2);
        refusedEach("19 OUTSIDE", "next(%)", -1, 2, -2);
        refusedEach("20 OUTSIDE", "steps(%)", -1, 2, -2);
        refusedEach("21 OUTSIDE", "read(0, %)", -100001, 100001, -2);
        refusedEach("21 OUTSIDE, not READ", "read(4, %)", -100001, 100001, -2);
        refusedEach("25 OUTSIDE", "bendRead(0, %)", -1, 2, -2000000002);
        refusedEach("26 OUTSIDE", "skill(%)", -1, 2, -2000000002);
        refusedEach("27 OUTSIDE", "attempt(%, 500, 5)", 0, 10, -2);
        refusedEach("27 OUTSIDE", "attempt(5, %, 5)", -1, 1001, -2);
        refusedEach("27 OUTSIDE", "attempt(5, 500, %)", -1, 1001, -2);
        refusedEach("28 OUTSIDE", "span(%, 0)", 0, 10, -2);
        refusedEach("28 OUTSIDE", "span(5, %)", -1, 2, -2);
        refusedEach("30 OUTSIDE", "weld(0, %)", -501, 501, -2);
        refusedEach("32 OUTSIDE", "shared(%, 0)", 0, 4, -2);
        refusedEach("33 OUTSIDE", "told(%)", 9, 16, -2);
    }

    private void states() {
        refused("23 STATE", FULL, "flat(5)", -2000000003);
        refused("24 STATE", FULL, "odd(-1)", -3);
        refused("24 STATE", FULL, "odd(0)", -3);
        refused("25 STATE", FULL, "bendRead(0, 0)", -2000000003);
        refused("26 STATE", FULL, "skill(0)", -2000000003);
    }

    private void fulls() {
        refused("2 FULL", FULL, "say(118)", -4);
        refused("2 FULL", FULL, "say(59)", -4);
        refused("5 FULL", FULL, "take()", -4);
        refused("17 FULL", FULL, "item(0, 9, true, true)", -4);
        refused("30 FULL", FULL, "weld(0, 500)", -4);
    }

    private void noes() {
        refused("5 NO", SOME, "take()", -5);
        refused("18 NO", SOME, "chosen(0, 0)", -5);
        refused("18 NO", FULL, "chosen(0, 1)", -5);
        refused("22 NO", SOME, "forget(35)", -5);
        refused("22 NO", FULL, "forget(1)", -5);
        refused("27 NO", SOME, "attempt(3, 40, 4)", -5);
        refused("27 NO", SOME, "attempt(3, 20, 4)", -5);
    }

    private void nones() {
        refused("24 NONE", SOME, "odd(36)", -6);
        refused("24 NONE", SOME, "odd(-2)", -6);
        refused("31 NONE", SOME, "order(3)", -6);
        refused("31 NONE", SOME, "order(-2)", -6);
        refused("32 NONE", SOME, "shared(2, 4)", -6);
        refused("32 NONE", SOME, "shared(2, -2)", -6);
    }

    /** Calls that only tell do not change what is told either; THE WORK stays behind searches. */
    private void asking() {
        String[] calls = {"4 fault()", "7 pass(1, 4)", "7 pass(1, 5)", "10 bend(1)", "11 height(35)", "13 miss(7)",
            "14 worst()", "15 twist(7)", "16 bound()", "18 chosen(1000, 0)", "18 chosen(100000000, 1)", "19 next(0)",
            "20 steps(0)", "20 steps(1)", "23 flat(5)", "24 odd(-1)", "24 odd(0)", "25 bendRead(1, 0)", "26 skill(0)",
            "28 span(3, 0)", "29 widest()", "31 order(-1)", "31 order(1)", "32 shared(2, -1)", "32 shared(3, 1)",
            "33 told(1)", "6 strike(0)"};
        for (String call : calls) {
            int gap = call.indexOf(' ');
            sameBehind(call.substring(0, gap) + " only tells", SOME, call.substring(gap + 1));
            sameBehind(call.substring(0, gap) + " only tells", FULL, call.substring(gap + 1));
        }
    }
}
