/** Promises 12 to 16: THE WISH, MISSES, WORST, TWISTS and BOUND. */
final class WishTest {
    private static final int LOW = Integer.MIN_VALUE, HIGH = Integer.MAX_VALUE;
    private final Checks checks = new Checks();

    public static void main(String[] args) {
        WishTest test = new WishTest();
        test.wishes();
        test.misses();
        test.worsts();
        test.twists();
        test.bounds();
        test.boundHolds();
        test.checks.end("WishTest");
    }

    private void wishes() {
        FlameBend x = new FlameBend();
        checks.due("12 first", x.wish(0, 100000), 0);
        checks.due("12 it was", x.wish(0, -100000), 100000);
        checks.due("12 it was", x.wish(0, 7), -100000);
        checks.due("12 last CORNER", x.wish(35, 3), 0);
        for (int v : new int[] {100001, -100001, LOW, HIGH}) {
            checks.due("12 OUTSIDE", x.wish(0, v), -2000000002);
        }
        for (int corner : new int[] {-1, 36, LOW, HIGH}) {
            checks.due("12 no such CORNER", x.wish(corner, 1), -2000000001);
            checks.due("12 UNKNOWN ahead of OUTSIDE", x.wish(corner, HIGH), -2000000001);
        }
        checks.due("12 stays", x.wish(0, 0), 7);
    }

    private void misses() {
        FlameBend x = Checks.working("v21;h32b");
        // BENDS: 10 at column 2, -19 at row 3
        x.wish(0, 1);
        x.wish(5, 20);
        x.wish(30, -7);
        x.wish(35, 4);
        x.wish(9, 6);
        // differences: -1 at 0, 30-20 = 10 at 5, -38+7 = -31 at 30
        checks.due("13 hook", x.miss(0), 0);
        checks.due("13 hook across", x.miss(5), 0);
        checks.due("13 hook along", x.miss(30), 0);
        // difference at 35: 30-38-4 = -12; plane there: -1+11-30 = -20
        checks.due("13 far CORNER", x.miss(35), 40);
        // difference at 9 (3, 1): 10-6 = 4; five times the plane: -5+33-30 = -2
        checks.due("13 inside", x.miss(9), 22);
        // difference at 1 (1, 0): 0; five times the plane: -5+11 = 6
        checks.due("13 at an edge", x.miss(1), -6);
        for (int corner : new int[] {-1, 36, LOW, HIGH}) {
            checks.due("13 no such CORNER", x.miss(corner), -2000000001);
        }
    }

    private void worsts() {
        FlameBend x = Checks.working("v21");
        // hung: 5 times the height less 30 times x: at column 2 it misses by 60
        checks.due("14 of WORK alone", x.worst(), 60);
        x.wish(2, -5);
        checks.due("14 lowered there, not in other rows", x.worst(), 60);
        x.wish(26, 9);
        checks.due("14 a greater miss", x.worst(), 105);
        x.wish(26, -100);
        checks.due("14 by size, above the plane", x.worst(), 440);
        x.wish(26, 100);
        checks.due("14 by size, below the plane", x.worst(), 560);
        x.strike(1);
        checks.due("14 without WORK", x.worst(), 500);
        FlameBend y = new FlameBend();
        for (int corner = 0; corner < 36; corner++) {
            y.wish(corner, 17 - 3 * (corner % 6) + 8 * (corner / 6));
        }
        checks.due("14 a wished plane is met", y.worst(), 0);
        FlameBend z = new FlameBend();
        for (int corner : new int[] {0, 35}) {
            z.wish(corner, 100000);
        }
        for (int corner : new int[] {5, 30}) {
            z.wish(corner, -100000);
        }
        checks.due("14 the greatest wish", z.worst(), 2000000);
        FlameBend both = Checks.working("v11;h11w");
        // 10 and 14 (15 by 95 percent): at (1, 1) -40 and -56 come together
        checks.due("14 both ways", both.worst(), 96);
        FlameBend last = new FlameBend();
        last.wish(35, -3);
        checks.due("14 last CORNER", last.worst(), 15);
    }

    private void twists() {
        FlameBend x = Checks.working("v29;h39");
        x.wish(14, 9);
        x.wish(0, 4);
        x.wish(35, -6);
        checks.due("15 h(x, y)", x.twist(14), 9);
        checks.due("15 h(x and 1, y)", x.twist(13), -9);
        checks.due("15 h(x, y and 1)", x.twist(8), -9);
        checks.due("15 h(x and 1, y and 1)", x.twist(7), 9);
        checks.due("15 first field", x.twist(0), 4);
        checks.due("15 last field", x.twist(28), -6);
        checks.due("15 elsewhere", x.twist(21), 0);
        for (int corner : new int[] {5, 11, 17, 23, 29, 35, 30, 31, 34, -1, 36, -7, LOW, HIGH}) {
            checks.due("15 no field at " + corner, x.twist(corner), -2000000001);
        }
    }

    private void bounds() {
        int[] twist = {0, 1, 2, 3, 4, 5, -1, -4, -7};
        int[] bound = {0, 2, 3, 4, 5, 7, 2, 5, 9};
        for (int i = 0; i < twist.length; i++) {
            FlameBend x = Checks.working("v29;h39");
            x.wish(14, twist[i]);
            checks.due("16 TWIST " + twist[i], x.bound(), bound[i]);
        }
        FlameBend x = new FlameBend();
        x.wish(0, 3);
        x.wish(35, -8);
        checks.due("16 greatest, in the last field", x.bound(), 10);
        FlameBend y = new FlameBend();
        y.wish(0, 100000);
        y.wish(7, 100000);
        y.wish(1, -100000);
        y.wish(6, -100000);
        checks.due("16 the greatest of all", y.bound(), 500000);
    }

    private void boundHolds() {
        FlameBend x = new FlameBend();
        x.wish(14, 10);
        x.wish(28, -33);
        String[] orders = {"v11;h35", "v21b;v31wb", "h49;h49b"};
        for (String more : orders) {
            Checks.take(x, more);
            checks.due("16 no WORK has a less WORST", x.worst() >= x.bound() ? 1 : 0, 1);
        }
    }
}
