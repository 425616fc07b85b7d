/** Promises 32 and 33: PASSES SHARED among SMITHS, and what is told. */
final class SmithTest {
    private static final int LOW = Integer.MIN_VALUE, HIGH = Integer.MAX_VALUE;
    private final Checks checks = new Checks();

    public static void main(String[] args) {
        SmithTest test = new SmithTest();
        test.nothing();
        test.sharings();
        test.refused();
        test.twelve();
        test.told();
        test.checks.end("SmithTest");
    }

    private void sharing(FlameBend x, int n, int greatest, int... smiths) {
        checks.due("32 greatest of " + n, x.shared(n, -1), greatest);
        for (int i = 0; i < smiths.length; i++) {
            checks.due("32 SMITH of " + i + " among " + n, x.shared(n, i), smiths[i]);
        }
        for (int i : new int[] {smiths.length, -2, LOW, HIGH}) {
            checks.due("32 NONE", x.shared(n, i), -6);
        }
    }

    private void nothing() {
        FlameBend x = new FlameBend();
        for (int n = 1; n <= 3; n++) {
            sharing(x, n, 0);
        }
    }

    private void sharings() {
        // TIMES 1, 6, 8, 3
        FlameBend x = Checks.working("v19;v24;h35w;h47b");
        sharing(x, 1, 18, 0, 0, 0, 0);
        sharing(x, 2, 9, 0, 1, 0, 1);
        sharing(x, 3, 8, 0, 0, 1, 2);
        // TIMES 12, 1, 1
        FlameBend y = Checks.working("v11w;v19;v19");
        sharing(y, 2, 12, 0, 1, 1);
        sharing(y, 3, 12, 0, 1, 1);
        // TIMES 1, 1, 12
        FlameBend z = Checks.working("v19;v19;v11w");
        sharing(z, 3, 12, 0, 0, 1);
        // one PASS
        FlameBend one = Checks.working("h25");
        sharing(one, 3, 5, 0);
        // TIMES 5, 5, 4, 4, 3, 3, 3: to the greatest first would make 11
        FlameBend seven = Checks.working("v15;v15;v16;v16;v17;v17;v17");
        sharing(seven, 3, 9, 0, 1, 0, 1, 2, 2, 2);
        sharing(seven, 2, 14, 0, 0, 0, 1, 1, 1, 1);
    }

    private void refused() {
        FlameBend x = Checks.working("v11");
        for (int n : new int[] {0, 4, -1, LOW, HIGH}) {
            checks.due("32 OUTSIDE", x.shared(n, 0), -2);
            checks.due("32 OUTSIDE ahead of NONE", x.shared(n, 1), -2);
        }
    }

    private void twelve() {
        FlameBend x = new FlameBend();
        Checks.take(x, "v13;v13;v13;v13;v13;v13");
        Checks.take(x, "v13;v13;v13;v13;v13;v13");
        sharing(x, 3, 28, 0, 0, 0, 0, 1, 1, 1, 1, 2, 2, 2, 2);
        sharing(x, 2, 42, 0, 0, 0, 0, 0, 0, 1, 1, 1, 1, 1, 1);
        x.strike(4);
        sharing(x, 2, 28, 0, 0, 0, 0, 1, 1, 1, 1);
        Checks.take(x, "v13;v13;v13");
        sharing(x, 2, 42, 0, 0, 0, 0, 0, 0, 1, 1, 1, 1, 1);
        sharing(x, 3, 28, 0, 0, 0, 0, 1, 1, 1, 1, 2, 2, 2);
    }

    private void told() {
        FlameBend x = Checks.working("v11;v22");
        Checks.say(x, "v33");
        x.item(0, 1, false, false);
        for (int corner = 0; corner < 4; corner++) {
            x.read(corner, 1);
        }
        for (int n = 0; n < 5; n++) {
            x.weld(0, 1);
        }
        int[] counts = {3, 2, 1, 4, 5};
        for (int what = 0; what < 5; what++) {
            checks.due("33 told(" + what + ")", x.told(what), counts[what]);
        }
        for (int which = 0; which < 6; which++) {
            x.set(which, 20 + which);
        }
        for (int which = 0; which < 6; which++) {
            checks.due("33 told(" + (10 + which) + ")", x.told(10 + which), 20 + which);
        }
        for (int what : new int[] {-1, 5, 6, 7, 8, 9, 16, 17, LOW, HIGH}) {
            checks.due("33 OUTSIDE", x.told(what), -2);
        }
    }
}
