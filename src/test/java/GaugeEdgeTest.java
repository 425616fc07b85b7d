/** Promises 21 to 29 at their edges. */
final class GaugeEdgeTest {
    private static final int LOW = Integer.MIN_VALUE, HIGH = Integer.MAX_VALUE;
    private static final int UNKNOWN = -2000000001, OUTSIDE = -2000000002, STATE = -2000000003;
    private final Checks checks = new Checks();
    private final Edges edges = new Edges(checks);

    public static void main(String[] args) {
        GaugeEdgeTest test = new GaugeEdgeTest();
        test.reads();
        test.readRefusals();
        test.forgets();
        test.flatRefusals();
        test.flats();
        test.oddState();
        test.oddNumbers();
        test.oddNear();
        test.oddByWork();
        test.oddAll();
        test.bendReadRefusals();
        test.bendReadRows();
        test.bendReadFractions();
        test.skillRefusals();
        test.skillSums();
        test.skillFractions();
        test.attemptNumbers();
        test.attemptTouching();
        test.attemptEnds();
        test.spanNumbers();
        test.widests();
        test.checks.end("GaugeEdgeTest");
    }

    private void reads() {
        edges.anew("21 -100000 to 100000, 1, and 0: there was one");
        for (int corner = 0; corner < 36; corner++) {
            String read = "read(" + corner + ", %)";
            edges.dueEach(read, new int[] {-100001, 100001, LOW, HIGH}, -2);
            edges.due("told(3)", corner);
            edges.due(read.replace("%", "-100000"), 1);
            edges.due(read.replace("%", "100000"), 0);
            edges.due("told(3)", corner + 1);
        }
        edges.due("told(3)", 36);
    }

    private void readRefusals() {
        edges.anew("21 CORNERS 0 to 35");
        edges.dueEach("read(%, 0)", new int[] {-1, 36, LOW, HIGH}, -1);
        edges.due("read(0, 0)", 1);
        edges.due("read(35, 0)", 1);
        edges.also("21 of UNKNOWN and OUTSIDE the first");
        edges.dueEach("read(36, %)", new int[] {-100001, 100001, LOW, HIGH}, -1);
        edges.dueEach("read(-1, %)", new int[] {-100001, 100001, LOW, HIGH}, -1);
        edges.due("told(3)", 2);
        edges.anew("21 a refused height is not READ", "read(0, 0)", "read(5, 0)", "read(30, 0)");
        edges.due("read(7, 100001)", -2);
        edges.due("flat(7)", UNKNOWN);
        edges.due("told(3)", 3);
        edges.also("21 a refused height does not take the place of another");
        edges.due("read(7, 2)", 1);
        edges.due("read(7, -100001)", -2);
        edges.due("flat(7)", 10);
        edges.also("21 there was one: the new height holds");
        edges.due("read(7, 3)", 0);
        edges.due("flat(7)", 15);
        edges.due("read(5, 5)", 0);
        edges.due("flat(7)", 10);
        edges.also("21 0 after it was forgotten: 1");
        edges.due("forget(7)", 1);
        edges.due("read(7, 0)", 1);
        edges.due("flat(7)", -5);
    }

    private void forgets() {
        edges.anew("22 CORNERS 0 to 35", "read(0, 1)", "read(35, 1)");
        edges.dueEach("forget(%)", new int[] {-1, 36, LOW, HIGH}, -1);
        edges.due("told(3)", 2);
        edges.due("forget(0)", 1);
        edges.due("forget(35)", 1);
        edges.due("told(3)", 0);
        edges.also("22 NO: it was not READ");
        edges.dueEach("forget(%)", new int[] {0, 1, 34, 35}, -5);
        edges.due("told(3)", 0);
        edges.anew("22 NO: nothing READ");
        edges.dueEach("forget(%)", new int[] {0, 5, 30, 35}, -5);
        edges.anew("22 of all 36");
        for (int corner = 0; corner < 36; corner++) {
            edges.due("read(" + corner + ", 1)", 1);
        }
        for (int corner = 0; corner < 36; corner++) {
            edges.due("forget(" + corner + ")", 1);
            edges.due("told(3)", 35 - corner);
        }
    }

    private void flatRefusals() {
        edges.anew("23 CORNERS 0 to 35", "read(0, 0)", "read(5, 0)", "read(30, 0)", "read(35, 1)");
        edges.dueEach("flat(%)", new int[] {-1, 36, LOW, HIGH}, UNKNOWN);
        edges.due("flat(0)", 0);
        edges.due("flat(35)", 5);
        edges.also("23 UNKNOWN: also it is not READ");
        edges.dueEach("flat(%)", new int[] {1, 4, 6, 29, 31, 34}, UNKNOWN);
        for (int hook : new int[] {0, 5, 30}) {
            edges.anew("23 STATE: " + hook + " lacks", "read(0, 0)", "read(5, 0)", "read(30, 0)", "read(35, 1)",
                "forget(" + hook + ")");
            edges.due("flat(35)", STATE);
            edges.also("23 of UNKNOWN and STATE the first: " + hook + " lacks");
            edges.dueEach("flat(%)", new int[] {hook, 1, -1, 36}, UNKNOWN);
            edges.also("23 " + hook + " is READ again");
            edges.due("read(" + hook + ", 0)", 1);
            edges.due("flat(35)", 5);
        }
        edges.anew("23 STATE: all three lack", "read(35, 1)");
        edges.due("flat(35)", STATE);
        edges.due("flat(0)", UNKNOWN);
    }

    private void flats() {
        edges.anew("23 the greatest FLAT", "read(0, 100000)", "read(5, -100000)", "read(30, -100000)", "read(35, 100000)");
        edges.due("flat(35)", 2000000);
        edges.dueEach("flat(%)", new int[] {0, 5, 30}, 0);
        edges.anew("23 the least FLAT", "read(0, -100000)", "read(5, 100000)", "read(30, 100000)", "read(35, -100000)");
        edges.due("flat(35)", -2000000);
        edges.dueEach("flat(%)", new int[] {0, 5, 30}, 0);
        edges.anew("23 READ 0 is a height", "read(0, 0)", "read(5, 0)", "read(30, 1)", "read(6, 0)");
        edges.due("flat(6)", -1);
        edges.also("23 THE WORK does nothing to it");
        edges.due("say v11", 3);
        edges.due("take()", 1);
        edges.due("flat(6)", -1);
    }

    private void oddState() {
        edges.anew("24 STATE: nothing READ");
        edges.dueEach("odd(%)", new int[] {-2, -1, 0, 1, LOW, HIGH}, -3);
        for (int hook : new int[] {0, 5, 30}) {
            edges.anew("24 STATE: " + hook + " lacks", "read(0, 0)", "read(5, 0)", "read(30, 0)", "read(35, 1)",
                "forget(" + hook + ")");
            edges.dueEach("odd(%)", new int[] {-2, -1, 0, 1, LOW, HIGH}, -3);
            edges.due("read(" + hook + ", 0)", 1);
            edges.due("odd(-1)", 1);
        }
    }

    private void oddNumbers() {
        edges.anew("24 none is ODD", "read(0, 7)", "read(5, 7)", "read(30, 7)");
        edges.due("odd(-1)", 0);
        edges.dueEach("odd(%)", new int[] {0, 1, -2, LOW, HIGH}, -6);
        edges.anew("24 the i-th by numbers", "read(35, 1)", "read(0, 0)", "read(30, 0)", "read(5, 0)", "read(1, 1)",
            "read(20, -1)", "read(21, 0)");
        edges.due("odd(-1)", 3);
        edges.due("odd(0)", 1);
        edges.due("odd(1)", 20);
        edges.due("odd(2)", 35);
        edges.dueEach("odd(%)", new int[] {3, 4, 36, -2, LOW, HIGH}, -6);
    }

    private void oddNear() {
        edges.anew("24 more than NEAR", "read(0, 0)", "read(5, 1)", "read(30, 0)", "read(1, 0)", "read(2, 0)", "read(3, 1)");
        // they differ by -1, -2 and 2
        int[] odd = {3, 2, 0};
        for (int near = 0; near < odd.length; near++) {
            edges.due("set(4, " + near + ")", Math.max(near - 1, 0));
            edges.due("odd(-1)", odd[near]);
        }
        edges.anew("24 just the greatest NEAR", "set(4, 1000000)", "read(0, 0)", "read(5, 0)", "read(30, -100000)",
            "read(32, 100000)");
        edges.due("flat(32)", 1000000);
        edges.due("odd(-1)", 0);
        edges.due("set(4, 999999)", 1000000);
        edges.due("odd(-1)", 1);
        edges.anew("24 just more than the greatest NEAR", "set(4, 1000000)", "read(0, 3)", "read(5, 0)",
            "read(30, -99999)", "read(32, 100000)");
        edges.due("flat(32)", 1000001);
        edges.due("odd(-1)", 1);
        edges.due("odd(0)", 32);
        edges.anew("24 just more than the greatest NEAR, below", "set(4, 1000000)", "read(0, -3)", "read(5, 0)",
            "read(30, 99999)", "read(32, -100000)");
        edges.due("flat(32)", -1000001);
        edges.due("odd(0)", 32);
    }

    /** BENDS of 10 at column 2 and 19 at row 3: hung they have 5 times 10 less 90 at CORNER 3, -114 at 18. */
    private void oddByWork() {
        edges.anew("24 FLAT as that of the shape of THE WORK", "say v21;h32", "take()", "read(0, 0)", "read(5, 30)",
            "read(30, 38)", "read(3, 10)", "read(18, 0)", "read(21, 10)");
        edges.due("flat(3)", -40);
        edges.due("flat(18)", -114);
        edges.due("flat(21)", -154);
        edges.due("odd(-1)", 0);
        edges.also("24 they differ by 5, by more than 4 and not than 5");
        edges.due("read(21, 11)", 0);
        edges.due("odd(-1)", 1);
        edges.due("odd(0)", 21);
        edges.due("set(4, 4)", 0);
        edges.due("odd(-1)", 1);
        edges.due("set(4, 5)", 4);
        edges.due("odd(-1)", 0);
        edges.also("24 the shape of no WORK");
        edges.due("set(4, 0)", 5);
        edges.due("strike(2)", 0);
        edges.due("odd(-1)", 3);
        edges.due("odd(0)", 3);
        edges.due("odd(1)", 18);
        edges.due("odd(2)", 21);
    }

    private void oddAll() {
        edges.anew("24 all that can be ODD");
        for (int corner = 0; corner < 36; corner++) {
            boolean hook = corner == 0 || corner == 5 || corner == 30;
            edges.due("read(" + corner + ", " + (hook ? 0 : corner) + ")", 1);
        }
        edges.due("odd(-1)", 33);
        edges.due("odd(0)", 1);
        edges.due("odd(32)", 35);
        edges.due("odd(33)", -6);
        edges.also("24 the three CORNERS are never ODD");
        edges.due("read(0, 100000)", 0);
        edges.due("read(5, -100000)", 0);
        edges.due("say v29", 3);
        edges.due("take()", 1);
        edges.due("odd(-1)", 33);
        edges.due("odd(0)", 1);
    }

    private void bendReadRefusals() {
        edges.anew("25 LINES 0 to 7", "read(0, 1)", "read(1, 0)", "read(2, 0)");
        edges.dueEach("bendRead(%, 0)", new int[] {-1, 8, LOW, HIGH}, UNKNOWN);
        edges.due("bendRead(0, 0)", 1);
        edges.due("bendRead(0, 1)", 1);
        edges.also("25 part 0 or 1");
        edges.dueEach("bendRead(0, %)", new int[] {-1, 2, LOW, HIGH}, OUTSIDE);
        edges.also("25 STATE: nowhere are all three READ");
        edges.dueEach("bendRead(%, 0)", new int[] {1, 2, 3, 4, 5, 6, 7}, STATE);
        edges.dueEach("bendRead(%, 1)", new int[] {1, 2, 3, 4, 5, 6, 7}, STATE);
        edges.also("25 of UNKNOWN, OUTSIDE and STATE the first");
        edges.dueEach("bendRead(8, %)", new int[] {-1, 2, LOW, HIGH}, UNKNOWN);
        edges.dueEach("bendRead(-1, %)", new int[] {-1, 2, LOW, HIGH}, UNKNOWN);
        edges.dueEach("bendRead(1, %)", new int[] {-1, 2, LOW, HIGH}, OUTSIDE);
        for (int lacking = 0; lacking < 3; lacking++) {
            edges.anew("25 STATE: one of the three is not READ", "read(0, 1)", "read(1, 0)", "read(2, 0)",
                "forget(" + lacking + ")");
            edges.due("bendRead(0, 0)", STATE);
        }
        edges.anew("25 STATE: three are READ, but not in one row", "read(0, 1)", "read(7, 0)", "read(14, 0)", "read(1, 1)",
            "read(8, 0)");
        edges.due("bendRead(0, 0)", STATE);
    }

    /** Each LINE, in its first row (column) alone and in its last one alone. */
    private void bendReadRows() {
        for (int line = 0; line < 8; line++) {
            int side = line < 4 ? 1 : 6;
            int onwards = line < 4 ? 6 : 1;
            for (int row = 0; row < 6; row++) {
                int at = (line % 4 + 1) * side + row * onwards;
                edges.anew("25 LINE " + line + " in row (column) " + row + " alone", "read(" + (at - side) + ", 5)",
                    "read(" + at + ", 100)", "read(" + (at + side) + ", 40)");
                edges.due("bendRead(" + line + ", 0)", -155);
                edges.due("bendRead(" + line + ", 1)", 1);
                for (int other = 0; other < 8; other++) {
                    if (other != line) {
                        edges.due("bendRead(" + other + ", 0)", STATE);
                    }
                }
            }
        }
    }

    private void bendReadFractions() {
        edges.anew("25 by one to six rows");
        for (int row = 0; row < 6; row++) {
            edges.due("read(" + 6 * row + ", " + (row == 0 ? 1 : 0) + ")", 1);
            edges.due("read(" + (6 * row + 1) + ", 0)", 1);
            edges.due("read(" + (6 * row + 2) + ", 0)", 1);
            edges.due("bendRead(0, 0)", 1);
            edges.due("bendRead(0, 1)", row + 1);
        }
        edges.also("25 in lowest terms");
        edges.due("read(0, 4)", 0);
        edges.due("bendRead(0, 0)", 2);
        edges.due("bendRead(0, 1)", 3);
        edges.also("25 the lower one above 0");
        edges.due("read(0, -3)", 0);
        edges.due("bendRead(0, 0)", -1);
        edges.due("bendRead(0, 1)", 2);
        edges.also("25 nothing bent is 0 by 1");
        edges.due("read(0, 0)", 0);
        edges.due("bendRead(0, 0)", 0);
        edges.due("bendRead(0, 1)", 1);
        for (int sign : new int[] {-1, 1}) {
            edges.anew("25 the greatest heights");
            for (int corner = 0; corner < 36; corner++) {
                edges.due("read(" + corner + ", " + (corner % 6 == 1 ? -100000 : 100000) * sign + ")", 1);
            }
            edges.due("bendRead(0, 0)", 400000 * sign);
            edges.due("bendRead(0, 1)", 1);
            edges.due("read(0, " + 99999 * sign + ")", 0);
            edges.due("bendRead(0, 0)", 2399999 * sign);
            edges.due("bendRead(0, 1)", 6);
        }
    }

    private void skillRefusals() {
        edges.anew("26 part 0 or 1", "say v11", "take()", "read(0, 3)", "read(1, 0)", "read(2, 0)");
        edges.due("skill(0)", 3);
        edges.due("skill(1)", 10);
        edges.dueEach("skill(%)", new int[] {-1, 2, LOW, HIGH}, OUTSIDE);
        edges.anew("26 STATE: no WORK, nothing READ");
        edges.dueEach("skill(%)", new int[] {0, 1}, STATE);
        edges.also("26 of OUTSIDE and STATE the first");
        edges.dueEach("skill(%)", new int[] {-1, 2, LOW, HIGH}, OUTSIDE);
        edges.anew("26 STATE: PASSES, but nothing READ", "say v11;h11", "take()");
        edges.dueEach("skill(%)", new int[] {0, 1}, STATE);
        edges.anew("26 STATE: READ, but no PASSES", "read(0, 3)", "read(1, 0)", "read(2, 0)");
        edges.dueEach("skill(%)", new int[] {0, 1}, STATE);
        edges.anew("26 STATE: no LINE has both", "say v21;h11", "take()", "read(0, 3)", "read(1, 0)", "read(2, 0)");
        edges.dueEach("skill(%)", new int[] {0, 1}, STATE);
        edges.anew("26 STATE: the PASSES were struck", "say v11", "take()", "read(0, 3)", "read(1, 0)", "read(2, 0)",
            "strike(1)");
        edges.dueEach("skill(%)", new int[] {0, 1}, STATE);
    }

    private void skillSums() {
        String[] threeEach = {"read(0, 3)", "read(1, 0)", "read(2, 0)", "read(3, 0)", "set(0, 0)", "set(1, 0)", "set(2, 0)"};
        edges.anew("26 STATE: PASSES of a LINE undo one another", threeEach);
        edges.due("say v15;v15b", 8);
        edges.due("take()", 2);
        edges.dueEach("skill(%)", new int[] {0, 1}, STATE);
        edges.anew("26 STATE: LINES undo one another", threeEach);
        edges.due("say v15;v25b", 8);
        edges.due("take()", 2);
        edges.dueEach("skill(%)", new int[] {0, 1}, STATE);
        edges.also("26 now the sum is 1 below 0: the lower number is above 0");
        edges.due("table(4, 0, 1)", 40);
        edges.due("say v14b", 4);
        edges.due("take()", 3);
        edges.due("skill(0)", -3);
        edges.due("skill(1)", 1);
        edges.anew("26 STATE: the TABLE number is 0", threeEach);
        edges.due("table(5, 0, 0)", 50);
        edges.due("say v15", 3);
        edges.due("take()", 1);
        edges.dueEach("skill(%)", new int[] {0, 1}, STATE);
        edges.anew("26 a LINE without PASSES does not count", threeEach);
        edges.due("say v15", 3);
        edges.due("take()", 1);
        edges.due("read(3, 100)", 0);
        edges.due("bendRead(1, 0)", 100);
        edges.due("skill(0)", 3);
        edges.due("skill(1)", 50);
        edges.also("26 a LINE with PASSES that is not READ does not count");
        edges.due("forget(3)", 1);
        edges.due("say v49", 3);
        edges.due("take()", 2);
        edges.due("skill(0)", 3);
        edges.due("skill(1)", 50);
        edges.anew("26 BENDS READ of halves and thirds", "say v11;h11", "take()", "set(0, 0)", "read(0, 0)", "read(1, 0)",
            "read(2, 1)", "read(6, 0)", "read(7, 0)", "read(8, 0)", "read(12, 0)", "read(13, 0)");
        // LINE 0 in two rows: 1 by 2; LINE 4 in two columns: 0 by 1
        edges.due("skill(0)", 1);
        edges.due("skill(1)", 40);
        edges.due("read(14, 1)", 1);
        // LINE 0 in three rows: 2 by 3; LINE 4 in three columns: 1 less 0 and 1: 2 by 3
        edges.due("skill(0)", 1);
        edges.due("skill(1)", 15);
        edges.due("forget(6)", 1);
        // LINE 0 in two rows: 2 by 2; LINE 4 in two columns: 2 by 2
        edges.due("skill(0)", 1);
        edges.due("skill(1)", 10);
        edges.due("read(9, 0)", 1);
        edges.due("read(3, 0)", 1);
        edges.due("read(15, 5)", 1);
        // LINE 4 now in three columns: 0, 2 and 5: 7 by 3
        edges.due("skill(0)", 1);
        edges.due("skill(1)", 6);
        edges.anew("26 a LINE whose BENDS are 0 counts with its BEND READ", threeEach);
        edges.due("table(5, 0, 0)", 50);
        edges.due("say v15;v21", 7);
        edges.due("take()", 2);
        edges.due("read(3, 1)", 0);
        edges.due("skill(0)", 2);
        edges.due("skill(1)", 5);
    }

    private void skillFractions() {
        edges.anew("26 nothing bent, as READ: 0 by 1", "say v17", "take()", "read(0, 3)", "read(1, 3)", "read(2, 3)");
        edges.due("skill(0)", 0);
        edges.due("skill(1)", 1);
        edges.anew("26 the greatest and the least", "say v11b", "take()", "table(1, 0, 1)", "read(0, 100000)",
            "read(1, -100000)", "read(2, 100000)");
        edges.due("skill(0)", -400000);
        edges.due("skill(1)", 1);
        edges.due("table(1, 0, 1000)", 1);
        edges.due("skill(0)", -400);
        edges.due("skill(1)", 1);
        edges.due("read(0, 99999)", 0);
        edges.due("skill(0)", -399999);
        edges.due("skill(1)", 1000);
    }

    private void attemptNumbers() {
        edges.anew("27 strength 1 to 9");
        edges.dueEach("attempt(%, 0, 0)", new int[] {-1, 0, 10, LOW, HIGH}, -2);
        edges.dueEach("attempt(%, 500, 500)", new int[] {1, 9}, 1);
        edges.also("27 bent 0 to 1000");
        edges.dueEach("attempt(2, %, 1000)", new int[] {-1, 1001, LOW, HIGH}, -2);
        edges.dueEach("attempt(2, %, 1000)", new int[] {0, 1000}, 1);
        edges.also("27 by 0 to 1000");
        edges.dueEach("attempt(2, 500, %)", new int[] {-1, 1001, LOW, HIGH}, -2);
        edges.due("attempt(2, 500, 1000)", 1);
        edges.due("span(2, 0)", 0);
        edges.due("span(2, 1)", 1000);
        edges.due("attempt(2, 500, 0)", 1);
        edges.due("span(2, 0)", 500);
        edges.due("span(2, 1)", 500);
        edges.also("27 of OUTSIDE and NO the first");
        edges.due("attempt(2, 0, 0)", -5);
        edges.due("attempt(2, 1001, 0)", -2);
        edges.due("attempt(2, 0, -1)", -2);
        edges.due("attempt(0, 0, 0)", -2);
        edges.due("span(2, 0)", 500);
        edges.due("span(2, 1)", 500);
    }

    private void attemptTouching() {
        edges.anew("27 just nothing is in both, above", "attempt(4, 500, 100)");
        edges.due("attempt(4, 701, 100)", -5);
        edges.due("span(4, 0)", 400);
        edges.due("span(4, 1)", 600);
        edges.also("27 just one number is in both, above");
        edges.due("attempt(4, 700, 100)", 1);
        edges.due("span(4, 0)", 600);
        edges.due("span(4, 1)", 600);
        edges.anew("27 just nothing is in both, below", "attempt(4, 500, 100)");
        edges.due("attempt(4, 299, 100)", -5);
        edges.due("span(4, 0)", 400);
        edges.due("span(4, 1)", 600);
        edges.also("27 just one number is in both, below");
        edges.due("attempt(4, 300, 100)", 1);
        edges.due("span(4, 0)", 400);
        edges.due("span(4, 1)", 400);
        edges.also("27 a SPAN of one number: it, and those beside it");
        edges.due("attempt(4, 399, 0)", -5);
        edges.due("attempt(4, 401, 0)", -5);
        edges.due("attempt(4, 400, 0)", 1);
        edges.due("attempt(4, 399, 1)", 1);
        edges.due("attempt(4, 401, 1)", 1);
        edges.due("span(4, 0)", 400);
        edges.due("span(4, 1)", 400);
    }

    private void attemptEnds() {
        edges.anew("27 a SPAN goes no further than 0 and 1000", "attempt(1, 0, 0)", "attempt(9, 1000, 0)",
            "attempt(2, 1, 2)", "attempt(3, 999, 2)");
        int[][] spans = {{1, 0, 0}, {9, 1000, 1000}, {2, 0, 3}, {3, 997, 1000}};
        for (int[] span : spans) {
            edges.due("span(" + span[0] + ", 0)", span[1]);
            edges.due("span(" + span[0] + ", 1)", span[2]);
        }
        edges.anew("27 a wider TRY changes nothing", "attempt(5, 500, 10)");
        edges.due("attempt(5, 500, 11)", 1);
        edges.due("attempt(5, 0, 1000)", 1);
        edges.due("attempt(5, 1000, 1000)", 1);
        edges.due("span(5, 0)", 490);
        edges.due("span(5, 1)", 510);
        edges.also("27 other strengths and the TABLE stay");
        edges.dueEach("span(%, 0)", new int[] {1, 4, 6, 9}, 0);
        edges.dueEach("span(%, 1)", new int[] {1, 4, 6, 9}, 1000);
        edges.due("table(5, 0, 50)", 50);
    }

    private void spanNumbers() {
        edges.anew("28 strength 1 to 9");
        edges.dueEach("span(%, 0)", new int[] {-1, 0, 10, LOW, HIGH}, -2);
        edges.dueEach("span(%, 1)", new int[] {-1, 0, 10, LOW, HIGH}, -2);
        edges.dueEach("span(%, 0)", new int[] {1, 2, 3, 4, 5, 6, 7, 8, 9}, 0);
        edges.dueEach("span(%, 1)", new int[] {1, 2, 3, 4, 5, 6, 7, 8, 9}, 1000);
        edges.also("28 end 0 or 1");
        edges.dueEach("span(1, %)", new int[] {-1, 2, LOW, HIGH}, -2);
        edges.dueEach("span(9, %)", new int[] {-1, 2, LOW, HIGH}, -2);
    }

    private void widests() {
        edges.anew("29 all alike at first: the first");
        edges.due("widest()", 1);
        edges.also("29 all alike, of one number each: the first");
        for (int strength = 9; strength >= 1; strength--) {
            edges.due("attempt(" + strength + ", " + 100 * strength + ", 0)", 1);
        }
        edges.due("widest()", 1);
        edges.anew("29 greater by 1: the last strength");
        for (int strength = 1; strength <= 9; strength++) {
            edges.due("attempt(" + strength + ", 0, " + (strength == 9 ? 8 : 7) + ")", 1);
        }
        edges.due("widest()", 9);
        edges.also("29 now all alike: the first");
        edges.due("attempt(9, 1000, 999)", 1);
        edges.due("widest()", 1);
        edges.also("29 a BARRED TRY changes nothing");
        edges.due("attempt(1, 500, 10)", -5);
        edges.due("widest()", 1);
        edges.also("29 the first less by 1: the second");
        edges.due("attempt(1, 0, 6)", 1);
        edges.due("widest()", 2);
        edges.anew("29 upper less lower end: high up, but narrower by 1");
        for (int strength = 1; strength <= 9; strength++) {
            edges.due("attempt(" + strength + ", " + (strength == 1 ? "800, 50)" : "0, 10)"), 1);
        }
        edges.due("widest()", 1);
        edges.due("attempt(1, 755, 5)", 1);
        edges.due("widest()", 1);
        edges.due("attempt(1, 1000, 249)", 1);
        edges.due("widest()", 2);
    }
}
