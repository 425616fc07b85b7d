import java.util.regex.Matcher;
import java.util.regex.Pattern;

/** Promises 1 to 11 at their edges: the last number taken, the first refused, the empty and the full. */
final class WorkEdgeTest {
    private static final int LOW = Integer.MIN_VALUE, HIGH = Integer.MAX_VALUE;
    private static final int NO_LINE = -2000000001;
    private static final String TWELVE = "v11;v11;v11;v11;v11;v11;v11;v11;v11;v11;v11;v11";
    /** Of 50 signs, the last of which ends the twelfth PASS. */
    private static final String FIFTY = "v11;v11;v11;v11;v11;v11;v11;v11;v11;v11;v11wb;v49b";
    private static final Pattern ORDERS = Pattern.compile("[vh][1-4][1-9]w?b?(;[vh][1-4][1-9]w?b?)*");
    private final Checks checks = new Checks();
    private final Edges edges = new Edges(checks);

    public static void main(String[] args) {
        WorkEdgeTest test = new WorkEdgeTest();
        test.emptyAtFirst();
        test.numbersAtFirst();
        test.objectsAreApart();
        test.signs();
        test.signsRefused();
        test.wipes();
        test.faultsOfNothing();
        test.faultOfEachSign();
        test.faultOfFullTexts();
        test.takeNo();
        test.takeFull();
        test.takeEachMany();
        test.strikes();
        test.passNumbers();
        test.partNotBelowZero();
        test.partByPassesAhead();
        test.bentIsCut();
        test.times();
        test.tables();
        test.sets();
        test.bends();
        test.heights();
        test.checks.end("WorkEdgeTest");
    }

    private void emptyAtFirst() {
        edges.anew("1 no signs, WORK, ITEMS, GAUGES, WELDS at first");
        edges.dueEach("told(%)", new int[] {0, 1, 2, 3, 4}, 0);
        edges.due("fault()", 0);
        edges.due("take()", -5);
        edges.due("strike(0)", 0);
        edges.due("strike(1)", -2);
        edges.dueEach("pass(0, %)", new int[] {0, 1, 2, 3, 4, 5, 6}, -1);
        edges.dueEach("bend(%)", new int[] {0, 1, 2, 3, 4, 5, 6, 7}, 0);
        edges.due("chosen(0, 0)", 0);
        edges.due("chosen(0, 1)", 0);
        edges.dueEach("next(%)", new int[] {0, 1}, -6);
        edges.dueEach("steps(%)", new int[] {0, 1}, 0);
        for (int corner = 0; corner < 36; corner++) {
            edges.due("height(" + corner + ")", 0);
            edges.due("miss(" + corner + ")", 0);
            edges.due("flat(" + corner + ")", -2000000001);
            edges.due("forget(" + corner + ")", -5);
        }
        edges.dueEach("odd(%)", new int[] {-1, 0}, -3);
        edges.dueEach("bendRead(%, 0)", new int[] {0, 1, 2, 3, 4, 5, 6, 7}, -2000000003);
        edges.dueEach("skill(%)", new int[] {0, 1}, -2000000003);
        edges.due("order(-1)", 0);
        edges.due("order(0)", -6);
        edges.dueEach("shared(%, -1)", new int[] {1, 2, 3}, 0);
        edges.dueEach("shared(%, 0)", new int[] {1, 2, 3}, -6);
        edges.due("wipe()", 0);
    }

    private void numbersAtFirst() {
        edges.anew("1 all numbers as at first");
        int[] first = {5, 10, 30, 1, 0, 10};
        for (int which = 0; which < 6; which++) {
            edges.due("told(" + (10 + which) + ")", first[which]);
        }
        for (int strength = 1; strength <= 9; strength++) {
            edges.due("table(" + strength + ", 0, 0)", 10 * strength);
            edges.due("table(" + strength + ", 1, 0)", 10 * strength + 5);
            edges.due("span(" + strength + ", 0)", 0);
            edges.due("span(" + strength + ", 1)", 1000);
        }
        edges.due("widest()", 1);
        edges.due("worst()", 0);
        edges.due("bound()", 0);
        for (int corner = 0; corner < 36; corner++) {
            edges.due("wish(" + corner + ", 0)", 0);
        }
    }

    private void objectsAreApart() {
        FlameBend other = Calls.made("say v11;v22", "take()", "say v", "item(0, 1, true, true)", "read(0, 3)",
            "weld(0, 1)", "wish(14, 5)", "table(1, 0, 77)", "set(0, 6)", "attempt(1, 5, 5)", "order(0)",
            "shared(2, 0)");
        edges.anew("1 a new object has nothing of another one");
        edges.dueEach("told(%)", new int[] {0, 1, 2, 3, 4}, 0);
        edges.due("told(10)", 5);
        edges.due("table(1, 0, 10)", 10);
        edges.due("wish(14, 0)", 0);
        edges.due("span(1, 1)", 1000);
        edges.due("order(-1)", 0);
        edges.due("shared(2, -1)", 0);
        checks.due("1 the other one keeps its own", other.told(1), 2);
    }

    private void signs() {
        edges.anew("2 codes 33 to 126");
        edges.due("say(33)", 1);
        edges.due("say(126)", 2);
        edges.dueEach("say(%)", new int[] {32, 127, 0, -1, -33, 33 + 128, 33 + 256, 33 + 65536, LOW, HIGH}, -2);
        edges.due("told(0)", 2);
        edges.anew("2 up to 50 signs", "say " + FIFTY.substring(0, 48));
        edges.due("say(57)", 49);
        edges.due("say(98)", 50);
        edges.dueEach("say(%)", new int[] {33, 98, 118, 126}, -4);
        edges.due("told(0)", 50);
        edges.due("fault()", -6);
        edges.also("2 of OUTSIDE and FULL the first");
        edges.dueEach("say(%)", new int[] {32, 127, LOW, HIGH}, -2);
        edges.also("2 there is room again when signs went");
        edges.due("wipe()", 50);
        edges.due("say(118)", 1);
    }

    private void signsRefused() {
        edges.anew("2 a refused sign is not in the text", "say v1");
        edges.due("say(32)", -2);
        edges.due("say(49)", 3);
        edges.due("fault()", -6);
        edges.due("take()", 1);
        edges.due("pass(0, 1)", 1);
        edges.anew("2 a sign too many is not in the text", "say " + FIFTY);
        edges.due("say(88)", -4);
        edges.due("fault()", -6);
        edges.due("take()", 12);
        edges.due("pass(11, 0)", 3);
        edges.due("pass(11, 3)", 1);
    }

    private void wipes() {
        edges.anew("3 how many there were: none");
        edges.due("wipe()", 0);
        edges.anew("3 how many there were: one", "say v");
        edges.due("wipe()", 1);
        edges.due("wipe()", 0);
        edges.due("fault()", 0);
        edges.anew("3 how many there were: all", "say " + FIFTY);
        edges.due("wipe()", 50);
        edges.due("told(0)", 0);
        edges.due("take()", -5);
        edges.anew("3 signs go, THE WORK stays", "say v11;h22", "take()", "say v3");
        edges.due("wipe()", 2);
        edges.due("told(1)", 2);
        edges.also("3 a text with a FAULT is gone");
        edges.due("say v33", 3);
        edges.due("fault()", -6);
    }

    private void faultsOfNothing() {
        edges.anew("4 nothing said: more must come");
        edges.due("fault()", 0);
        edges.anew("4 nothing said behind a taken text", "say v11", "take()");
        edges.due("fault()", 0);
        edges.anew("4 nothing said behind a wiped text", "say v11", "wipe()");
        edges.due("fault()", 0);
    }

    /** Each sign at each place of a PASS: whether it stands there, more must come, or all is said. */
    private void faultOfEachSign() {
        String[] ahead = {"", "v", "h", "v1", "h4", "v11", "h49", "v11w", "v11b", "v11wb", "v11;", "v11wb;", "v11;h",
            "v11;h2", "v11;h23", "v11;h23w", "v11;h23b", "v11;h23wb"};
        for (String text : ahead) {
            for (char sign = 33; sign <= 126; sign++) {
                faultOf(text + sign);
            }
        }
        for (char sign = 33; sign <= 126; sign++) {
            faultOf("v1" + sign + ";h22");
            faultOf("v11" + sign + "b");
        }
    }

    private void faultOf(String text) {
        int want = -6;
        for (int n = 1; n <= text.length() && want == -6; n++) {
            Matcher matcher = ORDERS.matcher(text.substring(0, n));
            boolean matches = matcher.matches();
            if (!matches && !matcher.hitEnd()) {
                want = n - 1;
            } else if (!matches && n == text.length()) {
                want = n;
            }
        }
        FlameBend x = new FlameBend();
        Checks.say(x, text);
        checks.due("4 fault of " + text, x.fault(), want);
        checks.due("5 take of " + text, x.take() == -5 ? 1 : 0, want == -6 ? 0 : 1);
    }

    private void faultOfFullTexts() {
        edges.anew("4 a full text", "say " + FIFTY);
        edges.due("fault()", -6);
        edges.anew("4 the last of 50 signs can not stand there", "say " + FIFTY.substring(0, 49) + "1");
        edges.due("fault()", 49);
        edges.anew("4 more must come behind 50 signs", "say " + TWELVE + ";v1");
        edges.due("fault()", 50);
        edges.due("take()", -5);
        edges.anew("4 the first of 50 signs can not stand there", "say w" + FIFTY.substring(1));
        edges.due("fault()", 0);
        edges.anew("4 the first of two FAULTS", "say v15;h05;x");
        edges.due("fault()", 5);
        edges.also("4 signs stay");
        edges.due("told(0)", 9);
        edges.due("fault()", 5);
    }

    private void takeNo() {
        edges.anew("5 NO: nothing said");
        edges.due("take()", -5);
        edges.anew("5 NO: more must come", "say v11;h22;");
        edges.due("take()", -5);
        edges.due("told(0)", 8);
        edges.due("told(1)", 0);
        edges.due("say(118)", 9);
        edges.due("say(52)", 10);
        edges.due("take()", -5);
        edges.due("say(57)", 11);
        edges.due("take()", 3);
        edges.anew("5 NO: a FAULT in the last PASS, none of the others is taken", "say v11;h22;v33bw");
        edges.due("take()", -5);
        edges.due("told(1)", 0);
        edges.due("told(0)", 13);
        edges.anew("5 NO: a FAULT, THE WORK is full", "say " + TWELVE, "take()");
        edges.due("take()", -5);
        edges.due("say v", 1);
        edges.due("take()", -5);
        edges.due("say v", 2);
        edges.due("take()", -5);
    }

    private void takeFull() {
        edges.anew("5 FULL: more than 12", "say " + TWELVE, "take()", "say h11w");
        edges.due("take()", -4);
        edges.due("told(0)", 4);
        edges.due("told(1)", 12);
        edges.also("5 the text that was refused is taken when there is room");
        edges.due("strike(1)", 11);
        edges.due("take()", 12);
        edges.due("told(0)", 0);
        edges.due("pass(11, 0)", 4);
        edges.due("pass(11, 2)", 1);
        edges.anew("5 50 signs with 12 PASSES are taken at once", "say " + FIFTY);
        edges.due("take()", 12);
        edges.due("told(0)", 0);
        edges.anew("5 none of several is taken when they are too many", "say v11", "take()", "say " + FIFTY);
        edges.due("take()", -4);
        edges.due("told(0)", 50);
        edges.due("told(1)", 1);
    }

    /** So many PASSES behind so many: taken up to 12, refused from 13 on. */
    private void takeEachMany() {
        for (int there = 0; there <= 12; there++) {
            for (int more = 1; more <= 12; more++) {
                FlameBend x = new FlameBend();
                if (there > 0) {
                    Checks.take(x, TWELVE.substring(0, 4 * there - 1));
                }
                boolean fits = there + more <= 12;
                String name = "5 " + more + " PASSES behind " + there;
                checks.due(name, Checks.take(x, TWELVE.substring(0, 4 * more - 1)), fits ? there + more : -4);
                checks.due(name + ", PASSES", x.told(1), fits ? there + more : there);
                checks.due(name + ", signs", x.told(0), fits ? 0 : 4 * more - 1);
            }
        }
    }

    private void strikes() {
        for (int there = 0; there <= 12; there++) {
            String work = there == 0 ? "" : TWELVE.substring(0, 4 * there - 1);
            edges.anew("6 n 0 to all, of " + there, "say " + work, "take()");
            edges.dueEach("strike(%)", new int[] {-1, there + 1, LOW, HIGH}, -2);
            edges.due("told(1)", there);
            edges.due("strike(0)", there);
            edges.due("strike(" + there + ")", 0);
            edges.due("strike(0)", 0);
            edges.due("strike(1)", -2);
        }
        edges.anew("6 the last ones are struck", "say v19;h28;v37", "take()", "strike(2)");
        edges.due("pass(0, 1)", 9);
        edges.dueEach("pass(%, 1)", new int[] {1, 2}, -1);
        edges.also("6 signs stay");
        edges.due("say h4", 2);
        edges.due("strike(1)", 0);
        edges.due("told(0)", 2);
    }

    private void passNumbers() {
        edges.anew("7 PASSES 0 to the last", "say v11;h49wb", "take()");
        edges.due("pass(0, 0)", 0);
        edges.due("pass(1, 0)", 7);
        edges.dueEach("pass(%, 0)", new int[] {-1, 2, 12, LOW, HIGH}, -1);
        edges.also("7 what 0 to 6");
        edges.dueEach("pass(0, %)", new int[] {-1, 7, 8, LOW, HIGH}, -2);
        edges.also("7 of UNKNOWN and OUTSIDE the first");
        edges.dueEach("pass(2, %)", new int[] {-1, 7, LOW, HIGH}, -1);
        edges.dueEach("pass(-1, %)", new int[] {-1, 7, LOW, HIGH}, -1);
        edges.anew("7 the last of 12", "say " + FIFTY, "take()");
        edges.due("pass(11, 1)", 9);
        edges.due("pass(10, 2)", 1);
        edges.due("pass(12, 1)", -1);
        edges.anew("7 the least and the greatest PASS", "say v11;h49wb", "take()");
        edges.due("pass(0, 1)", 1);
        edges.due("pass(1, 1)", 9);
        edges.dueEach("pass(0, %)", new int[] {2, 3}, 0);
        edges.dueEach("pass(1, %)", new int[] {2, 3}, 1);
    }

    private void partNotBelowZero() {
        edges.anew("7 PART just above, at and below 0 by AGAIN", "say v11;v11;v11", "take()", "set(2, 99)");
        edges.due("pass(1, 4)", 1);
        edges.due("pass(2, 4)", 0);
        edges.due("set(2, 100)", 99);
        edges.due("pass(1, 4)", 0);
        edges.due("pass(2, 4)", 0);
        edges.due("pass(2, 5)", 0);
        edges.due("set(2, 50)", 100);
        edges.due("pass(2, 4)", 0);
        edges.due("set(2, 49)", 50);
        edges.due("pass(2, 4)", 2);
        edges.anew("7 PART at and below 0 by BESIDE", "say v11;v31;v31;v21", "take()", "set(2, 0)", "set(1, 33)");
        edges.due("pass(3, 4)", 1);
        edges.due("set(1, 34)", 33);
        edges.due("pass(3, 4)", 0);
        edges.due("set(1, 50)", 34);
        edges.due("pass(3, 4)", 0);
        edges.anew("7 PART at and below 0 by CROSSED", "say h11;h21;h31;h41;v11;v11", "take()", "set(0, 25)");
        edges.due("pass(4, 4)", 0);
        edges.due("pass(4, 5)", 0);
        edges.due("set(0, 24)", 25);
        edges.due("pass(4, 4)", 4);
        edges.due("set(0, 30)", 24);
        edges.due("pass(4, 4)", 0);
        edges.also("7 a PASS with a PART of 0 counts for those behind it");
        edges.due("set(0, 0)", 30);
        edges.due("set(2, 100)", 30);
        edges.due("pass(5, 4)", 0);
    }

    private void partByPassesAhead() {
        edges.anew("7 PASSES behind it take nothing of a PART", "say v21;v21;v11;v31;h21", "take()");
        edges.due("pass(0, 4)", 100);
        edges.anew("7 the last standing and the first lying LINE are no neighbours", "say v41;h11", "take()");
        edges.due("pass(1, 4)", 95);
        edges.anew("7 the first and the last LINE of a way are no neighbours", "say v11;v41;h11;h41", "take()");
        edges.due("pass(1, 4)", 100);
        edges.due("pass(3, 4)", 90);
        edges.anew("7 two places off is no neighbour", "say h11;h31", "take()");
        edges.due("pass(1, 4)", 100);
        edges.anew("7 neighbours at both ends", "say v11;v21;v41;v31;h41;h31;h11;h21", "take()", "set(0, 0)");
        edges.due("pass(1, 4)", 90);
        edges.due("pass(3, 4)", 80);
        edges.due("pass(5, 4)", 90);
        edges.due("pass(7, 4)", 80);
        edges.anew("7 settings of 0 take nothing", "say v11;v21;h11;v11", "take()", "set(0, 0)", "set(1, 0)", "set(2, 0)");
        edges.dueEach("pass(%, 4)", new int[] {0, 1, 2, 3}, 100);
    }

    private void bentIsCut() {
        edges.anew("7 what it bends is cut towards 0", "say v11;v11;v11b;v11b", "take()", "set(2, 1)", "table(1, 0, 101)");
        edges.due("pass(0, 5)", 101);
        // 99.99, 98.98 and 97.97
        edges.due("pass(1, 5)", 99);
        edges.due("pass(2, 5)", -98);
        edges.due("pass(3, 5)", -97);
        edges.also("7 a whole quotient is not cut");
        edges.due("table(1, 0, 100)", 101);
        edges.due("pass(1, 5)", 99);
        edges.due("pass(2, 5)", -98);
        edges.also("7 less than 1 is cut to 0");
        edges.due("table(1, 0, 1)", 100);
        edges.due("pass(0, 5)", 1);
        edges.dueEach("pass(%, 5)", new int[] {1, 2, 3}, 0);
        edges.also("7 a TABLE number of 0");
        edges.due("table(1, 0, 0)", 1);
        edges.dueEach("pass(%, 5)", new int[] {0, 1, 2, 3}, 0);
        edges.also("7 the greatest TABLE number");
        edges.due("table(1, 0, 1000)", 0);
        edges.due("pass(0, 5)", 1000);
        edges.due("pass(2, 5)", -980);
    }

    private void times() {
        for (int strength = 1; strength <= 9; strength++) {
            edges.anew("7 TIME of strength " + strength, "say v1" + strength + ";v1" + strength + "wb", "take()");
            edges.due("pass(0, 6)", 10 - strength);
            edges.due("pass(1, 6)", 13 - strength);
        }
    }

    private void tables() {
        edges.anew("8 0 to 1000, of each strength and water");
        for (int strength = 1; strength <= 9; strength++) {
            for (int water = 0; water <= 1; water++) {
                String of = "table(" + strength + ", " + water + ", %)";
                edges.dueEach(of, new int[] {-1, 1001, LOW, HIGH}, -2);
                edges.due(of.replace("%", "0"), 10 * strength + 5 * water);
                edges.due(of.replace("%", "1000"), 0);
                edges.due(of.replace("%", Integer.toString(strength + 100 * water)), 1000);
            }
        }
        for (int strength = 1; strength <= 9; strength++) {
            edges.due("table(" + strength + ", 0, 0)", strength);
            edges.due("table(" + strength + ", 1, 0)", strength + 100);
        }
        edges.anew("8 strength 1 to 9");
        edges.dueEach("table(%, 0, 5)", new int[] {-1, 0, 10, 1 + (1 << 30), LOW, HIGH}, -2);
        edges.dueEach("table(%, 1, 5)", new int[] {-1, 0, 10, 1 + (1 << 30), LOW, HIGH}, -2);
        edges.also("8 water 0 or 1");
        edges.dueEach("table(1, %, 5)", new int[] {-1, 2, 18, LOW, HIGH}, -2);
        edges.dueEach("table(9, %, 5)", new int[] {-1, 2, -17, LOW, HIGH}, -2);
        edges.also("8 refused ones change no number");
        for (int strength = 1; strength <= 9; strength++) {
            edges.due("table(" + strength + ", 0, 0)", 10 * strength);
            edges.due("table(" + strength + ", 1, 0)", 10 * strength + 5);
        }
    }

    private void sets() {
        int[] first = {5, 10, 30, 1, 0, 10};
        int[] least = {0, 0, 0, 1, 0, 0};
        int[] most = {30, 50, 100, 100000, 1000000, 30};
        String[] name = {"CROSSED 0 to 30", "BESIDE 0 to 50", "AGAIN 0 to 100", "STEP 1 to 100000", "NEAR 0 to 1000000",
            "STIFF 0 to 30"};
        for (int which = 0; which < 6; which++) {
            edges.anew("9 " + name[which]);
            String set = "set(" + which + ", %)";
            String told = "told(" + (10 + which) + ")";
            edges.dueEach(set, new int[] {least[which] - 1, most[which] + 1, LOW, HIGH}, -2);
            edges.due(told, first[which]);
            edges.due(set.replace("%", "" + least[which]), first[which]);
            edges.due(told, least[which]);
            edges.due(set.replace("%", "" + most[which]), least[which]);
            edges.due(told, most[which]);
            edges.dueEach(set, new int[] {least[which] - 1, most[which] + 1, LOW, HIGH}, -2);
            edges.due(told, most[which]);
            edges.also("9 " + name[which] + ": others stay");
            for (int other = 0; other < 6; other++) {
                edges.due("told(" + (10 + other) + ")", other == which ? most[other] : first[other]);
            }
        }
        edges.anew("9 which 0 to 5");
        edges.dueEach("set(%, 1)", new int[] {-1, 6, 10, 15, LOW, HIGH}, -2);
    }

    private void bends() {
        edges.anew("10 LINES 0 to 7", "say v19;h49b", "take()");
        edges.due("bend(0)", 90);
        edges.due("bend(7)", -85);
        edges.dueEach("bend(%)", new int[] {-1, 8, LOW, HIGH}, NO_LINE);
        edges.anew("10 without WORK");
        edges.dueEach("bend(%)", new int[] {0, 7}, 0);
        edges.dueEach("bend(%)", new int[] {-1, 8}, NO_LINE);
        edges.anew("10 the greatest BEND", "say " + TWELVE, "take()", "set(2, 0)", "table(1, 0, 1000)");
        edges.due("bend(0)", 12000);
        edges.anew("10 the least BEND", "say " + TWELVE.replace("v11", "h41b").substring(0, 49), "take()",
            "say h41b;h41b", "take()", "set(2, 0)", "table(1, 0, 1000)");
        edges.due("bend(7)", -12000);
        edges.anew("10 PASSES that undo one another", "say v15;v15b", "take()", "set(2, 0)");
        edges.due("bend(0)", 0);
    }

    private void heights() {
        edges.anew("11 CORNERS 0 to 35", "say v19;h49b", "take()");
        edges.due("height(0)", 0);
        edges.due("height(35)", 4 * 90 - 85);
        edges.dueEach("height(%)", new int[] {-1, 36, LOW, HIGH}, NO_LINE);
        edges.anew("11 only where x is above the column", "say v41", "take()");
        edges.dueEach("height(%)", new int[] {0, 3, 4, 10, 34}, 0);
        edges.dueEach("height(%)", new int[] {5, 11, 35}, 10);
        edges.anew("11 only where y is above the row", "say h41", "take()");
        edges.dueEach("height(%)", new int[] {0, 18, 24, 25, 29}, 0);
        edges.dueEach("height(%)", new int[] {30, 31, 35}, 10);
        edges.anew("11 the first column and row", "say v11;h11", "take()", "set(0, 0)");
        edges.dueEach("height(%)", new int[] {0, 1, 6, 7}, 0);
        edges.dueEach("height(%)", new int[] {2, 12, 8, 13}, 10);
        edges.due("height(35)", 80);
        edges.anew("11 the greatest height", "say " + TWELVE, "take()", "set(2, 0)", "table(1, 0, 1000)");
        edges.dueEach("height(%)", new int[] {5, 35}, 48000);
    }
}
