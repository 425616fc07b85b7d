import java.util.Random;

/** All promises: runs of calls, drawn with fixed seeds, answered by the class as by the slow model. */
final class ModelTest {
    private static final int RUNS = 600;
    /** The document promises nothing beyond these. */
    private static final int CALLS = 512;
    /** As many calls as one draw can need. */
    private static final int CALLS_OF_A_DRAW = 60;
    private static final int[] FAR = {Integer.MIN_VALUE, Integer.MAX_VALUE, -1, 1 << 16, -65536, 256};

    private final Random random;
    private final FlameBend x = new FlameBend();
    private final SlowModel model = new SlowModel();
    /** Heights of a run are drawn up to this, so that some runs have close ones. */
    private final int reach;
    /** One part is called more often in a run, so that it fills up; in some runs none is. */
    private final int favoured;
    private int calls = 0;
    private String call = "";

    private ModelTest(long seed) {
        random = new Random(seed);
        int[] reaches = {3, 60, 1500, 100000};
        reach = reaches[random.nextInt(reaches.length)];
        favoured = random.nextInt(7);
    }

    public static void main(String[] args) {
        int runs = args.length > 0 ? Integer.parseInt(args[0]) : RUNS;
        long first = args.length > 1 ? Long.parseLong(args[1]) : 1;
        int wrong = 0;
        for (long seed = first; seed < first + runs && wrong < 20; seed++) {
            ModelTest run = new ModelTest(seed);
            while (run.calls + CALLS_OF_A_DRAW <= CALLS) {
                long[] answers = run.draw();
                if (answers[0] != answers[1]) {
                    wrong++;
                    System.out.println("seed " + seed + ", call " + run.calls + ": " + run.call + " answered "
                        + answers[0] + ", due is " + answers[1]);
                    break;
                }
            }
        }
        System.out.println("ModelTest: " + runs + " runs, " + wrong + " of them not as due");
        System.exit(wrong == 0 ? 0 : 1);
    }

    /** A number from a span, now and then just beside it or far off. */
    private int near(int from, int to) {
        int kind = random.nextInt(60);
        if (kind == 0) {
            return from - 1;
        }
        if (kind == 1) {
            return to + 1;
        }
        if (kind == 2) {
            return FAR[random.nextInt(FAR.length)];
        }
        if (kind < 6) {
            return kind == 3 ? from : to;
        }
        return from + (int) Math.floorMod(random.nextLong(), (long) to - from + 1);
    }

    private int corner() {
        int kind = random.nextInt(8);
        return kind == 0 ? 0 : kind == 1 ? 5 : kind == 2 ? 30 : near(0, 35);
    }

    private int someHeight() {
        return random.nextInt(30) == 0 ? near(-100000, 100000) : near(-reach, reach);
    }

    private long[] pair(String name, long got, long want, Object... with) {
        calls++;
        StringBuilder text = new StringBuilder(name).append('(');
        for (int i = 0; i < with.length; i++) {
            text.append(i == 0 ? "" : ", ").append(with[i]);
        }
        call = text.append(')').toString();
        return new long[] {got, want};
    }

    private long[] draw() {
        // Runs of some kind begin with a WISH that lines can nearly make, so that ITEMS serve.
        if (calls == 0 && random.nextBoolean()) {
            return wishShape();
        }
        int part = favoured < 6 && random.nextInt(3) == 0 ? favoured : somePart();
        switch (part) {
            case 0:
                return orders();
            case 1:
                return workCall();
            case 2:
                return wishCall();
            case 3:
                return itemCall();
            case 4:
                return gaugeCall();
            default:
                return lateCall();
        }
    }

    private int somePart() {
        int[] upTo = {8, 34, 50, 63, 87, 100};
        int kind = random.nextInt(100);
        int part = 0;
        while (kind >= upTo[part]) {
            part++;
        }
        return part;
    }

    private String somePass() {
        String text = (random.nextBoolean() ? "v" : "h") + (1 + random.nextInt(4)) + (1 + random.nextInt(9));
        return text + (random.nextInt(3) == 0 ? "w" : "") + (random.nextInt(3) == 0 ? "b" : "");
    }

    /** ORDERS of some PASSES, now and then with a sign too many, too few or another one. */
    private long[] orders() {
        StringBuilder text = new StringBuilder(somePass());
        for (int n = random.nextInt(4); n > 0; n--) {
            text.append(';').append(somePass());
        }
        int kind = random.nextInt(5);
        int at = random.nextInt(text.length());
        String signs = "vh1234567890wb;VH!~";
        char sign = signs.charAt(random.nextInt(signs.length()));
        if (kind == 0) {
            text.setCharAt(at, sign);
        } else if (kind == 1) {
            text.insert(at, sign);
        } else if (kind == 2) {
            text.deleteCharAt(at);
        }
        // What was left by a FAULT would be one to all that comes behind it.
        if (model.told(0) > 0 && random.nextInt(6) > 0) {
            long[] wiped = pair("wipe", x.wipe(), model.wipe());
            if (wiped[0] != wiped[1]) {
                return wiped;
            }
        }
        for (int i = 0; i < text.length(); i++) {
            long[] said = pair("say", x.say(text.charAt(i)), model.say(text.charAt(i)), text.charAt(i));
            if (said[0] != said[1]) {
                return said;
            }
            if (random.nextInt(4) == 0) {
                long[] fault = pair("fault", x.fault(), model.fault());
                if (fault[0] != fault[1]) {
                    return fault;
                }
            }
        }
        return pair("take", x.take(), model.take());
    }

    private long[] workCall() {
        switch (random.nextInt(11)) {
            case 0: {
                int sign = near(33, 126);
                return pair("say", x.say(sign), model.say(sign), sign);
            }
            case 1:
                return pair("wipe", x.wipe(), model.wipe());
            case 2:
                return pair("fault", x.fault(), model.fault());
            case 3:
                return pair("take", x.take(), model.take());
            case 4: {
                int n = near(0, random.nextInt(6) == 0 ? 12 : 2);
                return pair("strike", x.strike(n), model.strike(n), n);
            }
            case 5:
            case 6: {
                int i = near(0, Math.max(0, model.told(1) - 1));
                int what = near(0, 6);
                return pair("pass", x.pass(i, what), model.pass(i, what), i, what);
            }
            case 7: {
                int strength = near(1, 9);
                int water = near(0, 1);
                int v = near(0, random.nextInt(3) == 0 ? 1000 : 100);
                return pair("table", x.table(strength, water, v), model.table(strength, water, v), strength, water, v);
            }
            case 8: {
                int which = near(0, 5);
                int[] most = {30, 50, 100, 100000, 1000000, 30};
                int top = which >= 0 && which < 6 ? most[which] : 10;
                int v = which == 3 && random.nextBoolean() ? 1 : near(0, random.nextBoolean() ? top : top / 5);
                return pair("set", x.set(which, v), model.set(which, v), which, v);
            }
            case 9: {
                int line = near(0, 7);
                return pair("bend", x.bend(line), model.bend(line), line);
            }
            default: {
                int corner = corner();
                return pair("height", x.height(corner), model.height(corner), corner);
            }
        }
    }

    private long[] wishAt(int corner, int v) {
        return pair("wish", x.wish(corner, v), model.wish(corner, v), corner, v);
    }

    private long[] wishShape() {
        int[] bends = new int[8];
        for (int line = 0; line < 8; line++) {
            bends[line] = random.nextInt(3) == 0 ? 0 : 5 * (random.nextInt(37) - 18);
        }
        for (int corner = 0; corner < 35; corner++) {
            long[] wished = wishAt(corner, SlowModel.height(bends, corner) + random.nextInt(3));
            if (wished[0] != wished[1]) {
                return wished;
            }
        }
        return wishAt(35, SlowModel.height(bends, 35));
    }

    private long[] wishCall() {
        int corner = corner();
        switch (random.nextInt(8)) {
            case 0:
            case 1:
            case 2:
                return wishAt(corner, someHeight());
            case 3:
            case 4:
                return pair("miss", x.miss(corner), model.miss(corner), corner);
            case 5:
                return pair("worst", x.worst(), model.worst());
            case 6:
                return pair("twist", x.twist(corner), model.twist(corner), corner);
            default:
                return pair("bound", x.bound(), model.bound());
        }
    }

    private long[] itemCall() {
        switch (random.nextInt(8)) {
            case 0:
            case 1:
            case 2: {
                int line = near(0, 7);
                int strength = near(1, 9);
                boolean water = random.nextBoolean();
                boolean back = random.nextBoolean();
                return pair("item", x.item(line, strength, water, back), model.item(line, strength, water, back),
                    line, strength, water, back);
            }
            case 3:
            case 4: {
                int now = model.worst();
                int below = now - random.nextInt(now / (random.nextBoolean() ? 2 : 15) + 1);
                int most = random.nextInt(8) == 0 ? near(0, 100000000) : below;
                int what = near(0, 1);
                return pair("chosen", x.chosen(most, what), model.chosen(most, what), most, what);
            }
            case 5:
            case 6: {
                int what = near(0, 1);
                return pair("next", x.next(what), model.next(what), what);
            }
            default: {
                int what = near(0, 1);
                return pair("steps", x.steps(what), model.steps(what), what);
            }
        }
    }

    private long[] readAt(int corner) {
        int v = random.nextBoolean() ? model.height(corner) : someHeight();
        return pair("read", x.read(corner, v), model.read(corner, v), corner, v);
    }

    /** The three CORNERS by which plates are hung. */
    private long[] readHooks() {
        for (int hook : new int[] {0, 5}) {
            long[] read = readAt(hook);
            if (read[0] != read[1]) {
                return read;
            }
        }
        return readAt(30);
    }

    /** All three CORNERS at a LINE and beside it, in a row of the plate. */
    private long[] readAcross(int line, int row) {
        int side = line < 4 ? 1 : 6;
        int middle = (line % 4 + 1) * side + row * (7 - side);
        for (int corner = middle - side; corner < middle + side; corner += side) {
            long[] read = readAt(corner);
            if (read[0] != read[1]) {
                return read;
            }
        }
        return readAt(middle + side);
    }

    private long[] gaugeCall() {
        int corner = corner();
        int line = near(0, 7);
        int part = near(0, 1);
        int strength = near(1, 9);
        switch (random.nextInt(18)) {
            case 0:
            case 1:
                return readAt(corner);
            case 2:
                return readHooks();
            case 3:
            case 4:
            case 5:
                return readAcross(random.nextInt(8), random.nextInt(6));
            case 6: {
                int some = near(0, 35);
                return pair("forget", x.forget(some), model.forget(some), some);
            }
            case 7:
                return pair("flat", x.flat(corner), model.flat(corner), corner);
            case 8:
            case 9: {
                int i = near(-1, 5);
                return pair("odd", x.odd(i), model.odd(i), i);
            }
            case 10:
            case 11:
                return pair("bendRead", x.bendRead(line, part), model.bendRead(line, part), line, part);
            case 12:
            case 13:
                return pair("skill", x.skill(part), model.skill(part), part);
            case 14:
            case 15: {
                int bent = near(0, 1000);
                int by = near(0, 1000);
                return pair("attempt", x.attempt(strength, bent, by), model.attempt(strength, bent, by),
                    strength, bent, by);
            }
            case 16:
                return pair("span", x.span(strength, part), model.span(strength, part), strength, part);
            default:
                return pair("widest", x.widest(), model.widest());
        }
    }

    private long[] lateCall() {
        switch (random.nextInt(8)) {
            case 0:
            case 1:
            case 2: {
                int line = near(0, 7);
                int pull = near(-500, 500);
                return pair("weld", x.weld(line, pull), model.weld(line, pull), line, pull);
            }
            case 3:
            case 4: {
                int i = near(-1, model.told(4));
                return pair("order", x.order(i), model.order(i), i);
            }
            case 5:
            case 6: {
                int n = near(1, 3);
                int i = near(-1, model.told(1));
                return pair("shared", x.shared(n, i), model.shared(n, i), n, i);
            }
            default: {
                int what = near(0, 15);
                return pair("told", x.told(what), model.told(what), what);
            }
        }
    }
}
