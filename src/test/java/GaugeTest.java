/** Promises 21 to 29: heights READ, FLAT, ODD, BENDS READ, SKILL and SPANS. */
final class GaugeTest {
    private static final int LOW = Integer.MIN_VALUE, HIGH = Integer.MAX_VALUE;
    private final Checks checks = new Checks();

    public static void main(String[] args) {
        GaugeTest test = new GaugeTest();
        test.reads();
        test.forgets();
        test.flats();
        test.odds();
        test.oddRefused();
        test.bendsRead();
        test.bendsReadRefused();
        test.skills();
        test.skillOfEachLine();
        test.skillsRefused();
        test.attempts();
        test.attemptsRefused();
        test.spans();
        test.widest();
        test.checks.end("GaugeTest");
    }

    private static void readHooks(FlameBend x, int hook, int across, int along) {
        x.read(0, hook);
        x.read(5, across);
        x.read(30, along);
    }

    private void reads() {
        FlameBend x = new FlameBend();
        checks.due("21 first", x.read(0, 100000), 1);
        checks.due("21 there was one", x.read(0, -100000), 0);
        checks.due("21 told", x.told(3), 1);
        checks.due("21 last CORNER", x.read(35, 0), 1);
        checks.due("21 0 is READ", x.told(3), 2);
        for (int corner : new int[] {-1, 36, LOW, HIGH}) {
            checks.due("21 no such CORNER", x.read(corner, 1), -1);
            checks.due("21 UNKNOWN ahead of OUTSIDE", x.read(corner, HIGH), -1);
        }
        for (int v : new int[] {100001, -100001, LOW, HIGH}) {
            checks.due("21 OUTSIDE", x.read(1, v), -2);
            checks.due("21 OUTSIDE, there was one", x.read(0, v), -2);
        }
        checks.due("21 nothing more READ", x.told(3), 2);
        FlameBend y = new FlameBend();
        readHooks(y, 0, 0, 0);
        y.read(7, 3);
        y.read(7, 4);
        checks.due("21 the later height holds", y.flat(7), 20);
        y.read(7, 100001);
        checks.due("21 a refused one does not", y.flat(7), 20);
        checks.due("21 THE WISH stays", y.wish(7, 0), 0);
    }

    private void forgets() {
        FlameBend x = new FlameBend();
        checks.due("22 it was not READ", x.forget(3), -5);
        x.read(3, 8);
        x.read(4, 8);
        checks.due("22 forgotten", x.forget(3), 1);
        checks.due("22 told", x.told(3), 1);
        checks.due("22 twice", x.forget(3), -5);
        checks.due("22 told", x.told(3), 1);
        checks.due("22 READ anew", x.read(3, 9), 1);
        for (int corner : new int[] {-1, 36, LOW, HIGH}) {
            checks.due("22 no such CORNER", x.forget(corner), -1);
        }
    }

    private void flats() {
        FlameBend x = new FlameBend();
        checks.due("23 not READ", x.flat(3), -2000000001);
        x.read(3, 51);
        checks.due("23 no hooks", x.flat(3), -2000000003);
        x.read(0, 10);
        checks.due("23 one hook", x.flat(3), -2000000003);
        x.read(5, 20);
        checks.due("23 two hooks", x.flat(3), -2000000003);
        x.read(30, 40);
        // five times 51, less 50 and 3 times 10
        checks.due("23 FLAT", x.flat(3), 175);
        x.read(20, -5);
        // (2, 3): -25, less 50 and 2 times 10 and 3 times 30
        checks.due("23 FLAT inside", x.flat(20), -185);
        checks.due("23 hook", x.flat(0), 0);
        checks.due("23 hook across", x.flat(5), 0);
        checks.due("23 hook along", x.flat(30), 0);
        checks.due("23 UNKNOWN: not READ", x.flat(4), -2000000001);
        for (int corner : new int[] {-1, 36, LOW, HIGH}) {
            checks.due("23 no such CORNER", x.flat(corner), -2000000001);
        }
        for (int hook : new int[] {0, 5, 30}) {
            x.forget(hook);
            checks.due("23 hook " + hook + " lacks", x.flat(3), -2000000003);
            checks.due("23 not READ, hook lacks", x.flat(hook), -2000000001);
            x.read(hook, 0);
        }
        FlameBend y = new FlameBend();
        readHooks(y, -100000, 100000, 100000);
        y.read(35, -100000);
        checks.due("23 greatest", y.flat(35), -2000000);
    }

    private void odds() {
        FlameBend x = Checks.working("v25");
        // hung: 5 times the height less 150 times x: at column 3 -200
        readHooks(x, 7, 157, 7);
        checks.due("24 hooks alone", x.odd(-1), 0);
        checks.due("24 none", x.odd(0), -6);
        x.read(3, 57);
        checks.due("24 as due", x.odd(-1), 0);
        x.read(3, 58);
        x.read(35, 155);
        x.read(9, 57);
        x.read(21, 50);
        checks.due("24 how many", x.odd(-1), 3);
        checks.due("24 first", x.odd(0), 3);
        checks.due("24 second", x.odd(1), 21);
        checks.due("24 third", x.odd(2), 35);
        checks.due("24 no fourth", x.odd(3), -6);
        for (int i : new int[] {-2, LOW, HIGH}) {
            checks.due("24 NONE", x.odd(i), -6);
        }
        // they differ by 5, -35 and -10
        x.set(4, 5);
        checks.due("24 more than NEAR", x.odd(-1), 2);
        checks.due("24 more than NEAR, first", x.odd(0), 21);
        x.set(4, 4);
        checks.due("24 just more", x.odd(-1), 3);
        x.set(4, 35);
        checks.due("24 below, just not more", x.odd(-1), 0);
        x.set(4, 34);
        checks.due("24 below, just more", x.odd(-1), 1);
        x.set(4, 0);
        x.strike(1);
        checks.due("24 by THE WORK", x.odd(-1), 4);
        x.wish(3, 77);
        checks.due("24 THE WISH does nothing", x.odd(-1), 4);
    }

    private void oddRefused() {
        FlameBend x = new FlameBend();
        for (int i : new int[] {-1, 0, -2, LOW, HIGH}) {
            checks.due("24 STATE", x.odd(i), -3);
        }
        for (int lacking : new int[] {0, 5, 30}) {
            readHooks(x, 0, 0, 0);
            x.forget(lacking);
            checks.due("24 hook " + lacking + " lacks", x.odd(-1), -3);
        }
    }

    private void bendOf(FlameBend x, int line, int upper, int lower) {
        checks.due("25 upper of LINE " + line, x.bendRead(line, 0), upper);
        checks.due("25 lower of LINE " + line, x.bendRead(line, 1), lower);
    }

    private void bendsRead() {
        FlameBend x = new FlameBend();
        x.read(0, 1);
        x.read(1, 4);
        x.read(2, 9);
        bendOf(x, 0, 2, 1);
        x.read(6, 0);
        x.read(7, 5);
        x.read(8, 5);
        bendOf(x, 0, -3, 2);
        x.read(30, 0);
        x.read(31, 0);
        x.read(32, 5);
        bendOf(x, 0, 2, 3);
        x.read(30, -2);
        bendOf(x, 0, 0, 1);
        x.read(12, 3);
        bendOf(x, 4, 4, 1);
        x.read(13, 3);
        bendOf(x, 4, 1, 2);
        bendOf(x, 0, 0, 1);
        FlameBend y = new FlameBend();
        for (int corner = 0; corner < 36; corner++) {
            y.read(corner, 3 * (corner % 6) * (corner % 6) - 2 * (corner / 6) * (corner / 6) * (corner / 6));
        }
        for (int place = 1; place <= 4; place++) {
            bendOf(y, place - 1, 6, 1);
            bendOf(y, place + 3, -12 * place, 1);
        }
        FlameBend z = new FlameBend();
        for (int row = 0; row < 6; row++) {
            z.read(6 * row + 3, -100000);
            z.read(6 * row + 4, 100000);
            z.read(6 * row + 5, row == 0 ? -99999 : -100000);
        }
        bendOf(z, 3, -2399999, 6);
    }

    private void bendsReadRefused() {
        FlameBend x = new FlameBend();
        for (int line = 0; line < 8; line++) {
            checks.due("25 nowhere", x.bendRead(line, 0), -2000000003);
        }
        x.read(0, 1);
        x.read(1, 1);
        x.read(8, 1);
        x.read(15, 1);
        checks.due("25 nowhere all three", x.bendRead(0, 1), -2000000003);
        for (int line : new int[] {-1, 8, LOW, HIGH}) {
            checks.due("25 no such LINE", x.bendRead(line, 0), -2000000001);
            checks.due("25 UNKNOWN ahead of OUTSIDE", x.bendRead(line, 2), -2000000001);
        }
        for (int part : new int[] {-1, 2, LOW, HIGH}) {
            checks.due("25 OUTSIDE ahead of STATE", x.bendRead(0, part), -2000000002);
        }
        x.read(2, 1);
        checks.due("25 now", x.bendRead(0, 0), 0);
        x.read(3, 1);
        x.forget(0);
        checks.due("25 one side is not READ", x.bendRead(0, 0), -2000000003);
        checks.due("25 the next LINE", x.bendRead(1, 0), 0);
        x.forget(3);
        x.read(0, 1);
        checks.due("25 the other side is not READ", x.bendRead(1, 0), -2000000003);
        x.forget(1);
        checks.due("25 at it is not READ", x.bendRead(0, 0), -2000000003);
    }

    private void skillOf(FlameBend x, long upper, long lower) {
        checks.due("26 upper", x.skill(0), upper);
        checks.due("26 lower", x.skill(1), lower);
    }

    private void skills() {
        FlameBend x = Checks.working("v25;h31");
        x.read(1, 0);
        x.read(2, 0);
        x.read(3, 51);
        skillOf(x, 51, 50);
        x.read(7, 0);
        x.read(8, 0);
        x.read(9, 50);
        skillOf(x, 101, 100);
        // a LINE without PASSES does not count
        x.read(4, 1000);
        skillOf(x, 101, 100);
        // row 3 lies at 9; BEND READ of it is 6 by 1
        x.read(15, 0);
        x.read(21, 0);
        x.read(27, 6);
        skillOf(x, 113, 118);
        // another third: columns 3, 4 and 5 make 7 by 3
        for (int corner : new int[] {16, 22, 17, 23}) {
            x.read(corner, 0);
        }
        x.read(28, 1);
        x.read(29, 0);
        skillOf(x, 317, 354);
        x.read(3, -51);
        x.read(9, -50);
        x.read(15, 0);
        skillOf(x, -289, 354);
    }

    private void skillOfEachLine() {
        for (int line = 0; line < 8; line++) {
            FlameBend x = Checks.working((line < 4 ? "v" : "h") + (line % 4 + 1) + "3");
            int side = line < 4 ? 1 : 6;
            int corner = (line % 4 + 1) * side;
            x.read(corner - side, 20);
            x.read(corner, 0);
            x.read(corner + side, 1);
            skillOf(x, 7, 10);
        }
    }

    private void skillsRefused() {
        FlameBend x = Checks.working("v25b;v25;v45");
        for (int part : new int[] {-1, 2, LOW, HIGH}) {
            checks.due("26 OUTSIDE ahead of STATE", x.skill(part), -2000000002L);
        }
        checks.due("26 nothing READ", x.skill(0), -2000000003L);
        x.read(0, 0);
        x.read(1, 5);
        x.read(2, 0);
        checks.due("26 only at a LINE without PASSES", x.skill(0), -2000000003L);
        x.read(3, 30);
        // BENDS -50 and 35, BEND READ 35
        skillOf(x, -7, 3);
        x.set(2, 0);
        checks.due("26 the sum is 0", x.skill(0), -2000000003L);
        checks.due("26 the sum is 0, lower", x.skill(1), -2000000003L);
        x.set(2, 30);
        x.read(1, 10);
        x.read(2, 10);
        x.read(3, 10);
        skillOf(x, 0, 1);
        // a LINE whose PASS bends by 0 counts
        x.table(5, 0, 0);
        Checks.take(x, "h19");
        x.read(8, 11);
        x.read(14, 13);
        skillOf(x, 1, 76);
    }

    private void attempts() {
        FlameBend x = new FlameBend();
        checks.due("27 first", x.attempt(3, 30, 5), 1);
        checks.due("28 lower", x.span(3, 0), 25);
        checks.due("28 upper", x.span(3, 1), 35);
        checks.due("27 BARRED above", x.attempt(3, 40, 4), -5);
        checks.due("27 BARRED below", x.attempt(3, 20, 4), -5);
        checks.due("28 stays", x.span(3, 0), 25);
        checks.due("28 stays", x.span(3, 1), 35);
        checks.due("27 wider", x.attempt(3, 500, 1000), 1);
        checks.due("28 stays", x.span(3, 0), 25);
        checks.due("28 stays", x.span(3, 1), 35);
        checks.due("27 touching below", x.attempt(3, 20, 5), 1);
        checks.due("28 one number", x.span(3, 0), 25);
        checks.due("28 one number", x.span(3, 1), 25);
        checks.due("27 that number", x.attempt(3, 25, 0), 1);
        checks.due("27 another number", x.attempt(3, 26, 0), -5);
        checks.due("27 least", x.attempt(1, 0, 0), 1);
        checks.due("28 least", x.span(1, 1), 0);
        checks.due("27 most", x.attempt(9, 1000, 0), 1);
        checks.due("28 most", x.span(9, 0), 1000);
        checks.due("27 all", x.attempt(5, 1000, 1000), 1);
        checks.due("28 all, lower", x.span(5, 0), 0);
        checks.due("28 all, upper", x.span(5, 1), 1000);
        checks.due("27 the TABLE stays", x.table(3, 0, 30), 30);
    }

    private void attemptsRefused() {
        FlameBend x = new FlameBend();
        for (int strength : new int[] {0, 10, LOW, HIGH}) {
            checks.due("27 strength", x.attempt(strength, 1, 1), -2);
            checks.due("28 strength", x.span(strength, 0), -2);
        }
        for (int v : new int[] {-1, 1001, LOW, HIGH}) {
            checks.due("27 bent", x.attempt(1, v, 1), -2);
            checks.due("27 by", x.attempt(1, 1, v), -2);
        }
        x.attempt(1, 0, 0);
        checks.due("27 OUTSIDE ahead of NO", x.attempt(1, 1001, 0), -2);
        for (int end : new int[] {-1, 2, LOW, HIGH}) {
            checks.due("28 end", x.span(1, end), -2);
        }
    }

    private void spans() {
        FlameBend x = new FlameBend();
        x.attempt(4, 100, 10);
        for (int strength = 1; strength <= 9; strength++) {
            checks.due("28 of its own", x.span(strength, 0), strength == 4 ? 90 : 0);
            checks.due("28 of its own", x.span(strength, 1), strength == 4 ? 110 : 1000);
        }
    }

    private void widest() {
        FlameBend x = new FlameBend();
        for (int strength = 1; strength <= 9; strength++) {
            checks.due("29 the first such", x.widest(), strength);
            x.attempt(strength, 0, 900 - strength % 3);
        }
        checks.due("29 of different ones", x.widest(), 3);
        x.attempt(3, 900, 899);
        checks.due("29 by both ends", x.widest(), 6);
        x.attempt(6, 0, 10);
        x.attempt(9, 0, 10);
        checks.due("29 then", x.widest(), 1);
        for (int strength = 1; strength <= 8; strength++) {
            x.attempt(strength, 1, 0);
        }
        checks.due("29 the last", x.widest(), 9);
        FlameBend y = new FlameBend();
        for (int strength = 1; strength <= 9; strength++) {
            y.attempt(strength, 500, strength == 7 ? 120 : 110);
        }
        checks.due("29 upper less lower", y.widest(), 7);
    }
}
