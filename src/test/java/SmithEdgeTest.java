/** Promises 32 and 33 at their edges. */
final class SmithEdgeTest {
    private static final int LOW = Integer.MIN_VALUE, HIGH = Integer.MAX_VALUE;
    private final Checks checks = new Checks();
    private final Edges edges = new Edges(checks);

    public static void main(String[] args) {
        SmithEdgeTest test = new SmithEdgeTest();
        test.sharedNumbers();
        test.noWork();
        test.fewPasses();
        test.ties();
        test.fullWork();
        test.followsWork();
        test.fewerSmithsLater();
        test.toldNumbers();
        test.toldEmptyAndFull();
        test.toldSettings();
        test.checks.end("SmithEdgeTest");
    }

    private void sharing(int n, int greatest, int... smiths) {
        edges.due("shared(" + n + ", -1)", greatest);
        for (int i = 0; i < smiths.length; i++) {
            edges.due("shared(" + n + ", " + i + ")", smiths[i]);
        }
        edges.dueEach("shared(" + n + ", %)", new int[] {smiths.length, -2, LOW, HIGH}, -6);
    }

    private void sharedNumbers() {
        edges.anew("32 n 1 to 3", "say v11;v12", "take()");
        edges.dueEach("shared(%, 0)", new int[] {-1, 0, 4, LOW, HIGH}, -2);
        edges.dueEach("shared(%, -1)", new int[] {-1, 0, 4, LOW, HIGH}, -2);
        edges.due("shared(1, -1)", 17);
        edges.due("shared(3, -1)", 9);
        edges.also("32 of OUTSIDE and NONE the first");
        edges.dueEach("shared(%, 2)", new int[] {-1, 0, 4, LOW, HIGH}, -2);
        edges.dueEach("shared(%, -2)", new int[] {-1, 0, 4, LOW, HIGH}, -2);
        edges.also("32 NONE: no such PASS");
        for (int n = 1; n <= 3; n++) {
            edges.dueEach("shared(" + n + ", %)", new int[] {2, 3, 12, -2, LOW, HIGH}, -6);
        }
        edges.also("32 a refused n changes nothing");
        edges.due("shared(2, 1)", 1);
        edges.due("shared(4, 1)", -2);
        edges.due("shared(2, 1)", 1);
    }

    private void noWork() {
        for (int n = 1; n <= 3; n++) {
            edges.anew("32 no WORK");
            sharing(n, 0);
            edges.anew("32 WORK that was struck", "say v11;v12", "take()", "shared(" + n + ", 1)", "strike(2)");
            sharing(n, 0);
        }
        edges.anew("32 OUTSIDE without WORK");
        edges.dueEach("shared(%, -1)", new int[] {0, 4}, -2);
    }

    private void fewPasses() {
        edges.anew("32 one PASS", "say v19", "take()");
        for (int n = 1; n <= 3; n++) {
            sharing(n, 1, 0);
        }
        edges.anew("32 two PASSES", "say v11w;v19", "take()");
        sharing(1, 13, 0, 0);
        sharing(2, 12, 0, 1);
        sharing(3, 12, 0, 1);
        edges.anew("32 as many PASSES as SMITHS", "say v15;v15;v15", "take()");
        sharing(1, 15, 0, 0, 0);
        sharing(2, 10, 0, 0, 1);
        sharing(3, 5, 0, 1, 2);
    }

    private void ties() {
        edges.anew("32 the first by SMITHS in order", "say v19;v19;v11w;v19", "take()");
        // TIMES 1, 1, 12, 1
        sharing(2, 12, 0, 0, 1, 0);
        sharing(3, 12, 0, 0, 1, 0);
        edges.anew("32 the first, though others are as soon done", "say v11;v18;v18;v18;v18", "take()");
        // TIMES 9, 2, 2, 2, 2
        sharing(2, 9, 0, 1, 1, 1, 1);
        sharing(3, 9, 0, 1, 1, 1, 1);
        edges.anew("32 the least sum that can be, above half of all", "say v14;v14;v15;v15;v16", "take()");
        // TIMES 6, 6, 5, 5, 4: 13 of 26 can not be, 12 and 14 can
        sharing(2, 14, 0, 0, 1, 1, 1);
    }

    private void fullWork() {
        String twelve = "v19;v19;v19;v19;v19;v19;v19;v19;v19;v19;v19;v19";
        edges.anew("32 12 PASSES", "say " + twelve, "take()");
        sharing(1, 12, 0, 0, 0, 0, 0, 0, 0, 0, 0, 0, 0, 0);
        sharing(2, 6, 0, 0, 0, 0, 0, 0, 1, 1, 1, 1, 1, 1);
        sharing(3, 4, 0, 0, 0, 0, 1, 1, 1, 1, 2, 2, 2, 2);
        edges.anew("32 12 PASSES of the greatest TIME", "say v11w;v11w;v11w;v11w;v11w;v11w", "take()",
            "say v11w;v11w;v11w;v11w;v11w;v11w", "take()");
        sharing(1, 144, 0, 0, 0, 0, 0, 0, 0, 0, 0, 0, 0, 0);
        sharing(3, 48, 0, 0, 0, 0, 1, 1, 1, 1, 2, 2, 2, 2);
    }

    private void followsWork() {
        edges.anew("32 behind more WORK and less", "say v15;v15", "take()");
        sharing(2, 5, 0, 1);
        edges.due("say v15", 3);
        edges.due("shared(2, -1)", 5);
        edges.due("take()", 3);
        sharing(2, 10, 0, 0, 1);
        edges.due("strike(1)", 2);
        sharing(2, 5, 0, 1);
        edges.also("32 a refused strike or take changes nothing");
        edges.due("strike(3)", -2);
        edges.due("take()", -5);
        sharing(2, 5, 0, 1);
        edges.also("32 the TABLE and settings do nothing to TIME");
        edges.due("table(5, 0, 0)", 50);
        edges.due("set(2, 100)", 30);
        sharing(2, 5, 0, 1);
    }

    private void fewerSmithsLater() {
        edges.anew("32 among fewer SMITHS behind more", "say v15;v15;v15", "take()");
        sharing(3, 5, 0, 1, 2);
        sharing(1, 15, 0, 0, 0);
        sharing(2, 10, 0, 0, 1);
        sharing(1, 15, 0, 0, 0);
        sharing(3, 5, 0, 1, 2);
        edges.also("32 other WORK in the place of what was struck");
        edges.due("strike(3)", 0);
        edges.due("say v19;v11w", 8);
        edges.due("take()", 2);
        sharing(3, 12, 0, 1);
        sharing(1, 13, 0, 0);
    }

    private void toldNumbers() {
        edges.anew("33 0 to 4, 10 to 15");
        edges.dueEach("told(%)", new int[] {0, 4}, 0);
        edges.due("told(10)", 5);
        edges.due("told(15)", 10);
        edges.dueEach("told(%)", new int[] {-1, 5, 6, 7, 8, 9, 16, 17, LOW, HIGH}, -2);
    }

    private void toldEmptyAndFull() {
        edges.anew("33 all full", "say v11;v11;v11;v11;v11;v11", "take()", "say v11;v11;v11;v11;v11;v11", "take()");
        for (int n = 0; n < 50; n++) {
            edges.due("say(126)", n + 1);
        }
        for (int n = 0; n < 10; n++) {
            edges.due("item(0, 1, false, false)", n);
        }
        for (int n = 0; n < 36; n++) {
            edges.due("read(" + n + ", 0)", 1);
        }
        for (int n = 0; n < 7; n++) {
            edges.due("weld(0, 0)", n);
        }
        int[] full = {50, 12, 10, 36, 7};
        for (int what = 0; what < 5; what++) {
            edges.due("told(" + what + ")", full[what]);
        }
        edges.also("33 refused ones are not counted");
        edges.due("say(126)", -4);
        edges.due("item(0, 1, false, false)", -4);
        edges.due("read(36, 0)", -1);
        edges.due("weld(0, 0)", -4);
        for (int what = 0; what < 5; what++) {
            edges.due("told(" + what + ")", full[what]);
        }
    }

    private void toldSettings() {
        int[] least = {0, 0, 0, 1, 0, 0};
        int[] most = {30, 50, 100, 100000, 1000000, 30};
        edges.anew("33 the least and the most that set() sets");
        for (int which = 0; which < 6; which++) {
            Calls.answer(edges.object(), "set(" + which + ", " + most[which] + ")");
            edges.due("told(" + (10 + which) + ")", most[which]);
            Calls.answer(edges.object(), "set(" + which + ", " + least[which] + ")");
            edges.due("told(" + (10 + which) + ")", least[which]);
        }
    }
}
