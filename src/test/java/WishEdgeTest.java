/** Promises 12 to 16 at their edges. */
final class WishEdgeTest {
    private static final int LOW = Integer.MIN_VALUE, HIGH = Integer.MAX_VALUE;
    private static final int UNKNOWN = -2000000001, OUTSIDE = -2000000002;
    private static final String[] FARTHEST = {"wish(0, 100000)", "wish(5, -100000)", "wish(30, -100000)",
        "wish(35, 100000)"};
    private final Checks checks = new Checks();
    private final Edges edges = new Edges(checks);

    public static void main(String[] args) {
        WishEdgeTest test = new WishEdgeTest();
        test.wishes();
        test.wishRefusals();
        test.misses();
        test.missAtHooks();
        test.worsts();
        test.worstOfEachCorner();
        test.twistFields();
        test.twistsAtEnds();
        test.boundIsRoundedUp();
        test.boundOfEachField();
        test.boundIsReached();
        test.checks.end("WishEdgeTest");
    }

    private void wishes() {
        for (int corner = 0; corner < 36; corner++) {
            edges.anew("12 -100000 to 100000");
            String wish = "wish(" + corner + ", %)";
            edges.dueEach(wish, new int[] {-100001, 100001, LOW, HIGH}, OUTSIDE);
            edges.due(wish.replace("%", "-100000"), 0);
            edges.due(wish.replace("%", "100000"), -100000);
            edges.dueEach(wish, new int[] {-100001, 100001, LOW, HIGH}, OUTSIDE);
            edges.due(wish.replace("%", "0"), 100000);
        }
    }

    private void wishRefusals() {
        edges.anew("12 CORNERS 0 to 35");
        edges.due("wish(0, 1)", 0);
        edges.due("wish(35, 2)", 0);
        edges.dueEach("wish(%, 3)", new int[] {-1, 36, LOW, HIGH}, UNKNOWN);
        edges.also("12 of UNKNOWN and OUTSIDE the first");
        edges.dueEach("wish(36, %)", new int[] {-100001, 100001, LOW, HIGH}, UNKNOWN);
        edges.dueEach("wish(-1, %)", new int[] {-100001, 100001, LOW, HIGH}, UNKNOWN);
        edges.also("12 others stay");
        for (int corner = 1; corner < 35; corner++) {
            edges.due("wish(" + corner + ", 0)", 0);
        }
        edges.due("wish(0, 0)", 1);
        edges.due("wish(35, 0)", 2);
    }

    private void misses() {
        edges.anew("13 CORNERS 0 to 35", "wish(35, 1)");
        edges.due("miss(0)", 0);
        edges.due("miss(35)", -5);
        edges.dueEach("miss(%)", new int[] {-1, 36, LOW, HIGH}, UNKNOWN);
        edges.anew("13 the plane goes by fifths", "wish(5, 1)");
        // less the plane through 0, -1 and 0, which has -1 by 5 at column 1
        edges.dueEach("miss(%)", new int[] {1, 7, 31}, 1);
        edges.dueEach("miss(%)", new int[] {4, 34}, 4);
        edges.dueEach("miss(%)", new int[] {11, 35}, 5);
        edges.dueEach("miss(%)", new int[] {0, 5, 6, 30}, 0);
        edges.anew("13 the farthest wishes", FARTHEST);
        edges.due("miss(35)", -2000000);
        // 0 less the plane through -100000, 100000 and 100000, times 5
        edges.due("miss(7)", 100000);
        edges.due("miss(29)", -1300000);
        edges.anew("13 the farthest wishes, the other way", "wish(0, -100000)", "wish(5, 100000)", "wish(30, 100000)",
            "wish(35, -100000)");
        edges.due("miss(35)", 2000000);
    }

    private void missAtHooks() {
        edges.anew("13 at the three CORNERS nothing is missed", "say v19;h29b", "take()", "wish(0, 100000)",
            "wish(5, -100000)", "wish(30, 99999)");
        edges.dueEach("miss(%)", new int[] {0, 5, 30}, 0);
    }

    private void worsts() {
        edges.anew("14 no WORK, no WISH");
        edges.due("worst()", 0);
        edges.anew("14 a WISH at one CORNER that hangs it", "wish(0, 1)");
        // the plane has -5 at CORNER 0 and 5 at CORNER 35, times 5
        edges.due("worst()", 5);
        edges.anew("14 the farthest wishes", FARTHEST);
        edges.due("worst()", 2000000);
        edges.anew("14 by size: the greatest is below 0", "wish(14, 7)", "wish(15, -6)");
        edges.due("worst()", 35);
        edges.anew("14 by size: the greatest is above 0", "wish(14, -7)", "wish(15, 6)");
        edges.due("worst()", 35);
        edges.anew("14 the greatest WORK", "say v21;v21;v21;v21;v21;v21;v21;v21;v21;v21;v21;v21", "take()",
            "set(2, 0)", "table(1, 0, 1000)");
        // 12000 at column 2: 5 times 0 less 2 times 36000
        edges.due("worst()", 72000);
        edges.anew("14 standing and lying LINES together", "say v21;h31", "take()", "set(0, 0)");
        // -60 at column 2, -60 at row 3
        edges.due("miss(2)", -60);
        edges.due("miss(18)", -60);
        edges.due("miss(20)", -120);
        edges.due("worst()", 120);
        edges.due("wish(20, -24)", 0);
        edges.due("miss(20)", 0);
        edges.due("worst()", 100);
        edges.anew("14 WORK that was struck misses nothing", "say v21", "take()", "strike(1)");
        edges.due("worst()", 0);
    }

    private void worstOfEachCorner() {
        for (int corner = 0; corner < 36; corner++) {
            boolean hook = corner == 0 || corner == 5 || corner == 30;
            for (int v : new int[] {-100000, 100000}) {
                edges.anew("14 a WISH at CORNER " + corner + " alone", "wish(" + corner + ", " + v + ")");
                // a hook tilts the plane: the far CORNER, or those beside another edge, miss as much
                edges.due("worst()", 500000);
                edges.due("miss(" + corner + ")", hook ? 0 : -5 * v);
            }
        }
    }

    private void twistFields() {
        edges.anew("15 a field has x and y below 5", "wish(28, 1)");
        edges.due("twist(28)", 1);
        edges.due("twist(0)", 0);
        edges.due("twist(4)", 0);
        edges.due("twist(24)", 0);
        edges.also("15 UNKNOWN: x or y is 5");
        edges.dueEach("twist(%)", new int[] {5, 11, 17, 23, 29}, UNKNOWN);
        edges.dueEach("twist(%)", new int[] {30, 31, 32, 33, 34, 35}, UNKNOWN);
        edges.also("15 UNKNOWN: no such CORNER");
        edges.dueEach("twist(%)", new int[] {-1, -2, -6, -7, 36, 37, LOW, HIGH}, UNKNOWN);
        edges.anew("15 no WISH");
        for (int corner = 0; corner < 36; corner++) {
            edges.due("twist(" + corner + ")", corner % 6 == 5 || corner >= 30 ? UNKNOWN : 0);
        }
    }

    private void twistsAtEnds() {
        for (int field : new int[] {0, 4, 24, 28}) {
            edges.anew("15 the greatest TWIST", "wish(" + field + ", 100000)", "wish(" + (field + 1) + ", -100000)",
                "wish(" + (field + 6) + ", -100000)", "wish(" + (field + 7) + ", 100000)");
            edges.due("twist(" + field + ")", 400000);
            edges.due("bound()", 500000);
            edges.anew("15 the least TWIST", "wish(" + field + ", -100000)", "wish(" + (field + 1) + ", 100000)",
                "wish(" + (field + 6) + ", 100000)", "wish(" + (field + 7) + ", -100000)");
            edges.due("twist(" + field + ")", -400000);
            edges.due("bound()", 500000);
        }
        edges.anew("15 shapes of BENDS have none", "say v29;h39b", "take()");
        for (int field : new int[] {0, 8, 15, 28}) {
            edges.due("twist(" + field + ")", 0);
        }
        edges.due("bound()", 0);
    }

    private void boundIsRoundedUp() {
        edges.anew("16 no WISH");
        edges.due("bound()", 0);
        int[] bounds = {0, 2, 3, 4, 5, 7, 8, 9, 10, 12};
        for (int twist = 0; twist < bounds.length; twist++) {
            edges.anew("16 rounded up, TWIST " + twist, "wish(35, " + twist + ")");
            edges.due("bound()", bounds[twist]);
            edges.anew("16 rounded up by size, TWIST -" + twist, "wish(35, -" + twist + ")");
            edges.due("bound()", bounds[twist]);
        }
    }

    private void boundOfEachField() {
        for (int y = 0; y < 5; y++) {
            for (int x = 0; x < 5; x++) {
                edges.anew("16 the greatest TWIST at (" + x + ", " + y + ")");
                // a step up at this field's far side, which no other field has
                for (int row = y + 1; row < 6; row++) {
                    for (int column = x + 1; column < 6; column++) {
                        edges.due("wish(" + (6 * row + column) + ", 8)", 0);
                    }
                }
                edges.due("twist(" + (6 * y + x) + ")", 8);
                edges.due("bound()", 10);
            }
        }
    }

    private void boundIsReached() {
        // a TWIST of 4 inside, of which each of four CORNERS misses a fourth
        edges.anew("16 no WORK has a less WORST: this one just has it", "wish(14, 1)", "wish(15, -1)", "wish(20, -1)",
            "wish(21, 1)");
        edges.due("bound()", 5);
        edges.due("worst()", 5);
        edges.anew("16 a WISH that WORK can make has a BOUND of 0");
        for (int corner = 5; corner < 36; corner += 6) {
            edges.due("wish(" + corner + ", 10)", 0);
        }
        edges.due("bound()", 0);
        edges.due("worst()", 40);
        edges.due("say v41", 3);
        edges.due("take()", 1);
        edges.due("worst()", 0);
    }
}
