import java.util.Arrays;

/**
 * Plates bent by flame: nets of corners bent by lines of heat, wished shapes and by how much they are missed,
 * the lines that serve best, heights read by gauges, welds whose order matters, and lines shared among smiths.
 */
public final class FlameBend {
    public static final int UNKNOWN = -1, OUTSIDE = -2, STATE = -3, FULL = -4, NO = -5, NONE = -6;
    public static final int LOST = -2000000000;

    private static final int LINES = 8;
    private static final int LINES_OF_A_WAY = 4;
    private static final int SIDE = 6;
    private static final int CORNERS = 36;
    /** The CORNERS by which shapes are hung. */
    private static final int HOOK = 0, HOOK_ACROSS = 5, HOOK_ALONG = 30;
    /** What heights are told in when they are hung, so that the plane's fifths are whole. */
    private static final int HUNG_TIMES = 5;
    private static final int MOST_HEIGHT = 100000;
    private static final int STRENGTHS = 9;
    private static final int MOST_TABLE = 1000;
    private static final int MOST_SIGNS = 50;
    private static final int MOST_PASSES = 12;
    private static final int MOST_ITEMS = 10;
    private static final int MOST_WELDS = 7;
    private static final int MOST_PULL = 500;
    private static final int MOST_SMITHS = 3;
    private static final int MOST_STEPS = 20;
    private static final int MOST_ASKED = 100000000;
    /** A limit on WORST that no shape comes near to. */
    private static final int NO_LIMIT = 2000000000;

    private final Orders orders;
    private final Rules rules;
    private final Passes work;
    private final Shape shape;
    private final Wish wished;
    private final Planner planner;
    private final Gauges gauges;
    private final Spans spans;
    private final Welds welds;
    private final Smiths smiths;
    private final Fraction fraction;

    public FlameBend() {
        orders = new Orders();
        rules = new Rules();
        work = new Passes(MOST_PASSES);
        shape = new Shape();
        wished = new Wish();
        planner = new Planner();
        gauges = new Gauges();
        spans = new Spans();
        welds = new Welds();
        smiths = new Smiths();
        fraction = new Fraction();
    }

    // ---- 1 work

    public int say(int sign) {
        if (sign < 33 || sign > 126) {
            return OUTSIDE;
        }
        return orders.add(sign) ? orders.count : FULL;
    }

    public int wipe() {
        int were = orders.count;
        orders.count = 0;
        return were;
    }

    public int fault() {
        return orders.faultPlace();
    }

    public int take() {
        if (orders.faultPlace() != NONE) {
            return NO;
        }
        if (work.count + orders.passes() > MOST_PASSES) {
            return FULL;
        }
        orders.moveInto(work);
        workChanged();
        return work.count;
    }

    public int strike(int n) {
        if (n < 0 || n > work.count) {
            return OUTSIDE;
        }
        work.count -= n;
        workChanged();
        return work.count;
    }

    public int pass(int i, int what) {
        if (i < 0 || i >= work.count) {
            return UNKNOWN;
        }
        switch (what) {
            case 0:
                return work.line[i];
            case 1:
                return work.strength[i];
            case 2:
                return work.water[i];
            case 3:
                return work.back[i];
            case 4:
                shape.becomeOf(work, i, rules);
                return shape.partOn(work.line[i], rules);
            case 5:
                shape.becomeOf(work, i, rules);
                return shape.bentBy(work, i, rules);
            case 6:
                return work.time(i);
            default:
                return OUTSIDE;
        }
    }

    public int table(int strength, int water, int v) {
        if (isNoStrength(strength) || water < 0 || water > 1 || v < 0 || v > MOST_TABLE) {
            return OUTSIDE;
        }
        welds.known = false;
        return rules.putTable(strength, water, v);
    }

    public int set(int which, int v) {
        if (!rules.allows(which, v)) {
            return OUTSIDE;
        }
        welds.known = false;
        return rules.put(which, v);
    }

    public int bend(int line) {
        if (isNoLine(line)) {
            return LOST + UNKNOWN;
        }
        shapeOfWork();
        return shape.bends[line];
    }

    public int height(int corner) {
        if (isNoCorner(corner)) {
            return LOST + UNKNOWN;
        }
        shapeOfWork();
        return shape.heightAt(corner);
    }

    // ---- 2 wishes

    public int wish(int corner, int v) {
        if (isNoCorner(corner)) {
            return LOST + UNKNOWN;
        }
        if (isNoHeight(v)) {
            return LOST + OUTSIDE;
        }
        welds.known = false;
        return wished.put(corner, v);
    }

    public int miss(int corner) {
        if (isNoCorner(corner)) {
            return LOST + UNKNOWN;
        }
        shapeOfWork();
        shape.hang();
        return shape.hungAt(corner) - wished.hung[corner];
    }

    public int worst() {
        shapeOfWork();
        return shape.worstWithin(wished, NO_LIMIT);
    }

    public int twist(int corner) {
        if (isNoCorner(corner) || !isField(corner)) {
            return LOST + UNKNOWN;
        }
        return wished.twistAt(corner);
    }

    public int bound() {
        return (wished.greatestTwist() * HUNG_TIMES + 3) / 4;
    }

    // ---- 3 items

    public int item(int line, int strength, boolean water, boolean back) {
        if (isNoLine(line)) {
            return UNKNOWN;
        }
        if (isNoStrength(strength)) {
            return OUTSIDE;
        }
        int number = planner.items.count;
        return planner.items.add(line, strength, water ? 1 : 0, back ? 1 : 0) ? number : FULL;
    }

    public int chosen(int most, int what) {
        if (most < 0 || most > MOST_ASKED || what < 0 || what > 1) {
            return OUTSIDE;
        }
        shapeOfWork();
        planner.findSet(shape, most, rules, wished);
        if (planner.found == NONE) {
            return NO;
        }
        return what == 0 ? planner.found : planner.foundWorst;
    }

    public int next(int what) {
        if (what < 0 || what > 1) {
            return OUTSIDE;
        }
        shapeOfWork();
        planner.findNext(shape, shape.worstWithin(wished, NO_LIMIT), rules, wished);
        if (planner.found == NONE) {
            return NONE;
        }
        return what == 0 ? planner.found : planner.foundWorst;
    }

    public int steps(int what) {
        if (what < 0 || what > 1) {
            return OUTSIDE;
        }
        shapeOfWork();
        int worstNow = shape.worstWithin(wished, NO_LIMIT);
        int done = 0;
        while (done < MOST_STEPS) {
            planner.findNext(shape, worstNow, rules, wished);
            if (planner.found == NONE) {
                break;
            }
            shape.lay(planner.items, planner.found, rules);
            worstNow = planner.foundWorst;
            done++;
        }
        return what == 0 ? done : worstNow;
    }

    // ---- 4 gauges

    public int read(int corner, int v) {
        if (isNoCorner(corner)) {
            return UNKNOWN;
        }
        if (isNoHeight(v)) {
            return OUTSIDE;
        }
        return gauges.put(corner, v) ? 0 : 1;
    }

    public int forget(int corner) {
        if (isNoCorner(corner)) {
            return UNKNOWN;
        }
        return gauges.drop(corner) ? 1 : NO;
    }

    public int flat(int corner) {
        if (isNoCorner(corner) || !gauges.isRead[corner]) {
            return LOST + UNKNOWN;
        }
        if (!gauges.canHang()) {
            return LOST + STATE;
        }
        return hungAt(gauges.heights, corner);
    }

    public int odd(int i) {
        if (!gauges.canHang()) {
            return STATE;
        }
        shapeOfWork();
        shape.hang();
        int seen = 0;
        for (int corner = 0; corner < CORNERS; corner++) {
            if (!gauges.isOdd(corner, shape, rules)) {
                continue;
            }
            if (seen == i) {
                return corner;
            }
            seen++;
        }
        return i == -1 ? seen : NONE;
    }

    public int bendRead(int line, int part) {
        if (isNoLine(line)) {
            return LOST + UNKNOWN;
        }
        if (part < 0 || part > 1) {
            return LOST + OUTSIDE;
        }
        gauges.readBend(line);
        if (gauges.bendPlaces == 0) {
            return LOST + STATE;
        }
        fraction.become(gauges.bendSum, gauges.bendPlaces);
        return (int) fraction.tell(part);
    }

    public long skill(int part) {
        if (part < 0 || part > 1) {
            return LOST + OUTSIDE;
        }
        shapeOfWork();
        fraction.become(0, 1);
        long bent = 0;
        for (int line = 0; line < LINES; line++) {
            gauges.readBend(line);
            if (shape.laid[line] > 0 && gauges.bendPlaces > 0) {
                fraction.increase(gauges.bendSum, gauges.bendPlaces);
                bent += shape.bends[line];
            }
        }
        // Without any such LINE the sum is 0 as well.
        if (bent == 0) {
            return LOST + STATE;
        }
        fraction.divide(bent);
        return fraction.tell(part);
    }

    public int attempt(int strength, int bent, int by) {
        if (isNoStrength(strength) || bent < 0 || bent > MOST_TABLE || by < 0 || by > MOST_TABLE) {
            return OUTSIDE;
        }
        return spans.narrow(strength, bent - by, bent + by) ? 1 : NO;
    }

    public int span(int strength, int end) {
        if (isNoStrength(strength) || end < 0 || end > 1) {
            return OUTSIDE;
        }
        return end == 0 ? spans.lower[strength - 1] : spans.upper[strength - 1];
    }

    public int widest() {
        return spans.widestStrength();
    }

    // ---- 5 welds

    public int weld(int line, int pull) {
        if (isNoLine(line)) {
            return UNKNOWN;
        }
        if (pull < -MOST_PULL || pull > MOST_PULL) {
            return OUTSIDE;
        }
        int number = welds.count;
        return welds.add(line, pull) ? number : FULL;
    }

    public int order(int i) {
        if (i < -1 || i >= welds.count) {
            return NONE;
        }
        if (!welds.known) {
            shapeOfWork();
            welds.findBest(shape, wished, rules);
        }
        return i == -1 ? welds.bestWorst : welds.best[i];
    }

    // ---- 6 smiths

    public int shared(int n, int i) {
        if (n < 1 || n > MOST_SMITHS) {
            return OUTSIDE;
        }
        if (i < -1 || i >= work.count) {
            return NONE;
        }
        if (smiths.knownFor != n) {
            smiths.share(work, n);
        }
        return i == -1 ? smiths.greatest : smiths.smithOf[i];
    }

    public int told(int what) {
        switch (what) {
            case 0:
                return orders.count;
            case 1:
                return work.count;
            case 2:
                return planner.items.count;
            case 3:
                return gauges.count;
            case 4:
                return welds.count;
            default:
                return what >= 10 && what < 10 + Rules.SETTINGS ? rules.settings[what - 10] : OUTSIDE;
        }
    }

    // ---- helpers of the calls

    private void workChanged() {
        welds.known = false;
        smiths.knownFor = 0;
    }

    private void shapeOfWork() {
        shape.becomeOf(work, work.count, rules);
    }

    private static boolean isNoLine(int line) {
        return line < 0 || line >= LINES;
    }

    private static boolean isNoCorner(int corner) {
        return corner < 0 || corner >= CORNERS;
    }

    private static boolean isNoStrength(int strength) {
        return strength < 1 || strength > STRENGTHS;
    }

    private static boolean isNoHeight(int v) {
        return v < -MOST_HEIGHT || v > MOST_HEIGHT;
    }

    /** Whether a CORNER is the first one of a field. */
    private static boolean isField(int corner) {
        return corner % SIDE < SIDE - 1 && corner / SIDE < SIDE - 1;
    }

    /** The height at a CORNER over the plane through those at the three hooks, times 5. */
    private static int hungAt(int[] heights, int corner) {
        int ground = heights[HOOK];
        int across = (heights[HOOK_ACROSS] - ground) * (corner % SIDE);
        int along = (heights[HOOK_ALONG] - ground) * (corner / SIDE);
        return (heights[corner] - ground) * HUNG_TIMES - across - along;
    }

    /** The text of ORDERS that is being said. */
    private static final class Orders {
        /** What has been said of a PASS: these are the places between two signs. */
        private static final int AT_WAY = 0, AT_PLACE = 1, AT_STRENGTH = 2, PAST_STRENGTH = 3, PAST_WATER = 4,
            PAST_BACK = 5, BROKEN = 6;

        final char[] signs = new char[MOST_SIGNS];
        int count;

        boolean add(int sign) {
            if (count >= MOST_SIGNS) {
                return false;
            }
            signs[count] = (char) sign;
            count++;
            return true;
        }

        int faultPlace() {
            int at = AT_WAY;
            for (int i = 0; i < count; i++) {
                at = follow(at, signs[i]);
                if (at == BROKEN) {
                    return i;
                }
            }
            return at >= PAST_STRENGTH ? NONE : count;
        }

        private static int follow(int at, char sign) {
            switch (at) {
                case AT_WAY:
                    return sign == 'v' || sign == 'h' ? AT_PLACE : BROKEN;
                case AT_PLACE:
                    return sign >= '1' && sign <= '4' ? AT_STRENGTH : BROKEN;
                case AT_STRENGTH:
                    return sign >= '1' && sign <= '9' ? PAST_STRENGTH : BROKEN;
                default:
                    return followPass(at, sign);
            }
        }

        private static int followPass(int at, char sign) {
            if (sign == ';') {
                return AT_WAY;
            }
            if (sign == 'w' && at == PAST_STRENGTH) {
                return PAST_WATER;
            }
            return sign == 'b' && (at == PAST_STRENGTH || at == PAST_WATER) ? PAST_BACK : BROKEN;
        }

        /** How many PASSES a text without a FAULT has. */
        int passes() {
            int found = 1;
            for (int i = 0; i < count; i++) {
                if (signs[i] == ';') {
                    found++;
                }
            }
            return found;
        }

        /** Hands over the PASSES of a text without a FAULT; the text is empty then. */
        void moveInto(Passes work) {
            int start = 0;
            for (int i = 0; i <= count; i++) {
                if (i == count || signs[i] == ';') {
                    movePass(work, start, i);
                    start = i + 1;
                }
            }
            count = 0;
        }

        private void movePass(Passes work, int start, int end) {
            if (end - start < 3 || end > count) {
                return;
            }
            int line = signs[start + 1] - '1' + (signs[start] == 'h' ? LINES_OF_A_WAY : 0);
            int water = 0;
            int back = 0;
            for (int i = start + 3; i < end; i++) {
                if (signs[i] == 'w') {
                    water = 1;
                } else {
                    back = 1;
                }
            }
            work.add(line, signs[start + 2] - '0', water, back);
        }
    }

    /** THE TABLE, and the numbers that set() sets. */
    private static final class Rules {
        static final int CROSSED = 0, BESIDE = 1, AGAIN = 2, STEP = 3, NEAR = 4, STIFF = 5, SETTINGS = 6;
        private static final int[] AT_FIRST = {5, 10, 30, 1, 0, 10};
        private static final int[] LEAST = {0, 0, 0, 1, 0, 0};
        private static final int[] MOST = {30, 50, 100, 100000, 1000000, 30};

        final int[] settings = new int[SETTINGS];
        /** By strength, and for each without and with water. */
        final int[] numbers = new int[2 * STRENGTHS];

        Rules() {
            System.arraycopy(AT_FIRST, 0, settings, 0, SETTINGS);
            for (int strength = 1; strength <= STRENGTHS; strength++) {
                numbers[2 * strength - 2] = 10 * strength;
                numbers[2 * strength - 1] = 10 * strength + 5;
            }
        }

        int tableOf(int strength, int water) {
            return numbers[2 * (strength - 1) + water];
        }

        int putTable(int strength, int water, int v) {
            int was = tableOf(strength, water);
            numbers[2 * (strength - 1) + water] = v;
            return was;
        }

        boolean allows(int which, int v) {
            return which >= 0 && which < SETTINGS && v >= LEAST[which] && v <= MOST[which];
        }

        int put(int which, int v) {
            int was = settings[which];
            settings[which] = v;
            return was;
        }
    }

    /** A row of PASSES: THE WORK, or the ITEMS. */
    private static final class Passes {
        final int room;
        final int[] line;
        final int[] strength;
        final int[] water;
        final int[] back;
        int count;

        Passes(int room) {
            this.room = room < 0 ? 0 : room;
            line = new int[this.room];
            strength = new int[this.room];
            water = new int[this.room];
            back = new int[this.room];
        }

        boolean add(int itsLine, int itsStrength, int itsWater, int itsBack) {
            if (count >= room) {
                return false;
            }
            line[count] = itsLine;
            strength[count] = itsStrength;
            water[count] = itsWater;
            back[count] = itsBack;
            count++;
            return true;
        }

        int time(int i) {
            return 10 - strength[i] + 3 * water[i];
        }
    }

    /** BENDS of the LINES, how many PASSES were laid on each, and the shape that comes of them when it is hung. */
    private static final class Shape {
        final int[] bends = new int[LINES];
        final int[] laid = new int[LINES];
        /** A shape of BENDS is one profile by columns and one by rows; both hung, times 5. */
        final int[] across = new int[SIDE];
        final int[] along = new int[SIDE];

        /** Becomes the shape of the first so many PASSES of THE WORK. */
        void becomeOf(Passes work, int many, Rules rules) {
            Arrays.fill(bends, 0);
            Arrays.fill(laid, 0);
            for (int i = 0; i < many; i++) {
                lay(work, i, rules);
            }
        }

        void becomeLike(Shape other) {
            System.arraycopy(other.bends, 0, bends, 0, LINES);
            System.arraycopy(other.laid, 0, laid, 0, LINES);
        }

        void lay(Passes passes, int i, Rules rules) {
            int bent = bentBy(passes, i, rules);
            int line = passes.line[i];
            bends[line] += bent;
            laid[line]++;
        }

        /** What a PASS bends, if it is done behind those that are laid. */
        int bentBy(Passes passes, int i, Rules rules) {
            int full = rules.tableOf(passes.strength[i], passes.water[i]);
            int bent = full * partOn(passes.line[i], rules) / 100;
            return passes.back[i] == 1 ? -bent : bent;
        }

        /** PART of a PASS on a LINE, if it is done behind those that are laid. */
        int partOn(int line, Rules rules) {
            int own = line < LINES_OF_A_WAY ? 0 : LINES_OF_A_WAY;
            int other = LINES_OF_A_WAY - own;
            int crossed = laid[other] + laid[other + 1] + laid[other + 2] + laid[other + 3];
            int beside = 0;
            if (line > own) {
                beside += laid[line - 1];
            }
            if (line < own + LINES_OF_A_WAY - 1) {
                beside += laid[line + 1];
            }
            int part = 100 - rules.settings[Rules.CROSSED] * crossed - rules.settings[Rules.BESIDE] * beside
                - rules.settings[Rules.AGAIN] * laid[line];
            return Math.max(part, 0);
        }

        int heightAt(int corner) {
            int x = corner % SIDE;
            int y = corner / SIDE;
            int height = 0;
            for (int k = 0; k < LINES_OF_A_WAY; k++) {
                int place = k + 1;
                height += bends[k] * Math.max(x - place, 0);
                height += bends[LINES_OF_A_WAY + k] * Math.max(y - place, 0);
            }
            return height;
        }

        /** Makes the profiles that hungAt tells of. */
        void hang() {
            hangProfile(across, 0);
            hangProfile(along, LINES_OF_A_WAY);
        }

        private void hangProfile(int[] profile, int first) {
            int slope = 0;
            profile[0] = 0;
            profile[1] = 0;
            for (int at = 1; at < SIDE - 1; at++) {
                slope += bends[first + at - 1];
                profile[at + 1] = profile[at] + slope;
            }
            int end = profile[SIDE - 1];
            for (int at = 0; at < SIDE; at++) {
                profile[at] = profile[at] * HUNG_TIMES - at * end;
            }
        }

        /** Height of a CORNER when the shape is hung, times 5; hang() goes ahead. */
        int hungAt(int corner) {
            return across[corner % SIDE] + along[corner / SIDE];
        }

        /** WORST; or, if that is above a limit, just some number above the limit. */
        int worstWithin(Wish wished, int limit) {
            hang();
            int worst = 0;
            int corner = 0;
            for (int y = 0; y < SIDE; y++) {
                for (int x = 0; x < SIDE; x++) {
                    int size = Math.abs(across[x] + along[y] - wished.hung[corner]);
                    if (size > limit) {
                        return size;
                    }
                    worst = Math.max(worst, size);
                    corner++;
                }
            }
            return worst;
        }
    }

    /** THE WISH. */
    private static final class Wish {
        final int[] heights = new int[CORNERS];
        final int[] hung = new int[CORNERS];

        int put(int corner, int v) {
            int was = heights[corner];
            heights[corner] = v;
            for (int k = 0; k < CORNERS; k++) {
                hung[k] = FlameBend.hungAt(heights, k);
            }
            return was;
        }

        int twistAt(int field) {
            return heights[field] - heights[field + 1] - heights[field + SIDE] + heights[field + SIDE + 1];
        }

        int greatestTwist() {
            int greatest = 0;
            for (int corner = 0; corner < CORNERS; corner++) {
                if (isField(corner)) {
                    greatest = Math.max(greatest, Math.abs(twistAt(corner)));
                }
            }
            return greatest;
        }
    }

    /** The ITEMS, and which of them serve best behind a shape. */
    private static final class Planner {
        final Passes items = new Passes(MOST_ITEMS);
        private final Shape trial = new Shape();
        /** What was found last, a set or an ITEM, or NONE; and WORST behind it. */
        int found = NONE;
        int foundWorst;

        /** The fewest ITEMS for a WORST of so much or less, of several the least WORST, then the least as bits. */
        void findSet(Shape start, int most, Rules rules, Wish wished) {
            found = NONE;
            int fewest = MOST_ITEMS + 1;
            // A rival of the same size must be better than the one before it, since that has the lesser bits.
            int limit = most;
            for (int bits = 0; bits < 1 << items.count; bits++) {
                int size = Integer.bitCount(bits);
                if (size > fewest) {
                    continue;
                }
                int allowed = size < fewest ? most : limit;
                trial.becomeLike(start);
                laySet(bits, rules);
                int worst = trial.worstWithin(wished, allowed);
                if (worst <= allowed) {
                    found = bits;
                    foundWorst = worst;
                    fewest = size;
                    limit = worst - 1;
                }
            }
        }

        private void laySet(int bits, Rules rules) {
            for (int i = 0; i < items.count; i++) {
                if ((bits >> i & 1) == 1) {
                    trial.lay(items, i, rules);
                }
            }
        }

        /** The first ITEM that makes the least WORST, if it lowers WORST by STEP at least. */
        void findNext(Shape start, int worstNow, Rules rules, Wish wished) {
            found = NONE;
            int limit = worstNow - rules.settings[Rules.STEP];
            for (int i = 0; i < items.count; i++) {
                trial.becomeLike(start);
                trial.lay(items, i, rules);
                int worst = trial.worstWithin(wished, limit);
                if (worst <= limit) {
                    found = i;
                    foundWorst = worst;
                    limit = worst - 1;
                }
            }
        }
    }

    /** Heights READ at CORNERS. */
    private static final class Gauges {
        final int[] heights = new int[CORNERS];
        final boolean[] isRead = new boolean[CORNERS];
        int count;
        /** What readBend found last: the sum, and at how many places. */
        int bendSum;
        int bendPlaces;

        /** Whether there was a height before. */
        boolean put(int corner, int v) {
            boolean was = isRead[corner];
            heights[corner] = v;
            isRead[corner] = true;
            if (!was) {
                count++;
            }
            return was;
        }

        /** Whether there was a height to drop. */
        boolean drop(int corner) {
            boolean was = isRead[corner];
            isRead[corner] = false;
            if (was) {
                count--;
            }
            return was;
        }

        boolean canHang() {
            return isRead[HOOK] && isRead[HOOK_ACROSS] && isRead[HOOK_ALONG];
        }

        boolean isOdd(int corner, Shape hungShape, Rules rules) {
            if (!isRead[corner]) {
                return false;
            }
            int apart = FlameBend.hungAt(heights, corner) - hungShape.hungAt(corner);
            return Math.abs(apart) > rules.settings[Rules.NEAR];
        }

        void readBend(int line) {
            boolean stands = line < LINES_OF_A_WAY;
            int side = stands ? 1 : SIDE;
            int onwards = stands ? SIDE : 1;
            int corner = (line % LINES_OF_A_WAY + 1) * side;
            bendSum = 0;
            bendPlaces = 0;
            for (int k = 0; k < SIDE; k++) {
                if (isRead[corner - side] && isRead[corner] && isRead[corner + side]) {
                    bendSum += heights[corner - side] - 2 * heights[corner] + heights[corner + side];
                    bendPlaces++;
                }
                corner += onwards;
            }
        }
    }

    /** A fraction in lowest terms, the lower number above 0. */
    private static final class Fraction {
        private long upper;
        private long lower = 1;

        /** A lower number of 0, which no caller has, would be taken for 1. */
        void become(long newUpper, long newLower) {
            long common = commonDivisor(Math.abs(newUpper), Math.abs(newLower));
            if (common == 0 || newLower == 0) {
                upper = newUpper;
                lower = 1;
                return;
            }
            long sign = newLower < 0 ? -1 : 1;
            upper = sign * newUpper / common;
            lower = sign * newLower / common;
        }

        void increase(long otherUpper, long otherLower) {
            become(upper * otherLower + otherUpper * lower, lower * otherLower);
        }

        void divide(long divisor) {
            become(upper, lower * divisor);
        }

        long tell(int part) {
            return part == 0 ? upper : lower;
        }

        private static long commonDivisor(long a, long b) {
            // Numbers of 63 bits need fewer than 100 turns.
            for (int turn = 0; turn < 100 && b != 0; turn++) {
                long rest = a % b;
                a = b;
                b = rest;
            }
            return a;
        }
    }

    /** SPANS of the TABLE numbers without water. */
    private static final class Spans {
        final int[] lower = new int[STRENGTHS];
        final int[] upper = new int[STRENGTHS];

        Spans() {
            Arrays.fill(upper, MOST_TABLE);
        }

        /** Whether anything of the SPAN is in the other one; if not, it stays. */
        boolean narrow(int strength, int from, int to) {
            int newLower = Math.max(lower[strength - 1], from);
            int newUpper = Math.min(upper[strength - 1], to);
            if (newLower > newUpper) {
                return false;
            }
            lower[strength - 1] = newLower;
            upper[strength - 1] = newUpper;
            return true;
        }

        int widestStrength() {
            int widest = 0;
            for (int k = 1; k < STRENGTHS; k++) {
                if (upper[k] - lower[k] > upper[widest] - lower[widest]) {
                    widest = k;
                }
            }
            return widest + 1;
        }
    }

    /** WELDS, and THE BEST ORDER of them. */
    private static final class Welds {
        /** In how many orders 7 WELDS can be done. */
        private static final int MOST_ORDERS = 5040;

        final int[] line = new int[MOST_WELDS];
        final int[] pull = new int[MOST_WELDS];
        final int[] best = new int[MOST_WELDS];
        int count;
        int bestWorst;
        /** Whether best still holds; whoever changes what it comes of makes this false. */
        boolean known;
        private final int[] tried = new int[MOST_WELDS];
        /** By WELD, and for each by its place in the order. */
        private final int[] bent = new int[MOST_WELDS * MOST_WELDS];
        private final Shape trial = new Shape();

        boolean add(int itsLine, int itsPull) {
            if (count >= MOST_WELDS) {
                return false;
            }
            line[count] = itsLine;
            pull[count] = itsPull;
            count++;
            known = false;
            return true;
        }

        void findBest(Shape start, Wish wished, Rules rules) {
            findBent(rules);
            for (int k = 0; k < count; k++) {
                tried[k] = k;
            }
            // Orders come by numbers, so that a later one must be better.
            int limit = NO_LIMIT;
            for (int turn = 0; turn < MOST_ORDERS; turn++) {
                int worst = worstBehind(start, wished, limit);
                if (worst <= limit) {
                    System.arraycopy(tried, 0, best, 0, count);
                    bestWorst = worst;
                    limit = worst - 1;
                }
                if (!goOn()) {
                    break;
                }
            }
            known = true;
        }

        private void findBent(Rules rules) {
            for (int k = 0; k < count; k++) {
                int share = Math.max(100 - rules.settings[Rules.STIFF] * k, 0);
                for (int number = 0; number < count; number++) {
                    bent[number * MOST_WELDS + k] = pull[number] * share / 100;
                }
            }
        }

        private int worstBehind(Shape start, Wish wished, int limit) {
            trial.becomeLike(start);
            for (int k = 0; k < count; k++) {
                int number = tried[k];
                trial.bends[line[number]] += bent[number * MOST_WELDS + k];
            }
            return trial.worstWithin(wished, limit);
        }

        /** The next order by numbers is put into tried; false, if there is none. */
        private boolean goOn() {
            int turned = count - 2;
            while (turned >= 0 && tried[turned] > tried[turned + 1]) {
                turned--;
            }
            if (turned < 0) {
                return false;
            }
            int other = count - 1;
            while (other > turned + 1 && tried[other] < tried[turned]) {
                other--;
            }
            swapTried(turned, other);
            int low = turned + 1;
            int high = count - 1;
            while (low < high) {
                swapTried(low, high);
                low++;
                high--;
            }
            return true;
        }

        private void swapTried(int a, int b) {
            int kept = tried[a];
            tried[a] = tried[b];
            tried[b] = kept;
        }
    }

    /** Shares the PASSES of THE WORK among SMITHS. */
    private static final class Smiths {
        final int[] smithOf = new int[MOST_PASSES];
        int greatest;
        /** Among how many SMITHS that sharing is; whoever changes THE WORK makes this 0. */
        int knownFor;
        private final int[] times = new int[MOST_PASSES];
        private final int[] sums = new int[MOST_SMITHS];
        private int count;

        /** Finds the least greatest sum, and the first sharing that has it. */
        void share(Passes work, int n) {
            int smiths = Math.max(1, Math.min(n, MOST_SMITHS));
            count = Math.min(work.count, MOST_PASSES);
            int total = 0;
            int longest = 0;
            for (int i = 0; i < count; i++) {
                times[i] = work.time(i);
                total += times[i];
                longest = Math.max(longest, times[i]);
            }
            // No sum can be less than this; and one SMITH can always do all.
            greatest = Math.max(longest, (total + smiths - 1) / smiths);
            Arrays.fill(sums, 0);
            while (greatest < total && !fits(0, smiths, greatest)) {
                greatest++;
            }
            if (greatest >= total) {
                Arrays.fill(smithOf, 0);
            }
            knownFor = n;
        }

        /** Whether the PASSES from one on can be shared so that no sum is above most. */
        private boolean fits(int pass, int smiths, int most) {
            if (pass >= count) {
                return true;
            }
            for (int smith = 0; smith < smiths; smith++) {
                if (sums[smith] + times[pass] > most || isLikeEarlier(smith)) {
                    continue;
                }
                sums[smith] += times[pass];
                smithOf[pass] = smith;
                if (fits(pass + 1, smiths, most)) {
                    return true;
                }
                sums[smith] -= times[pass];
            }
            return false;
        }

        /** What does not fit with one SMITH does not with another of the same sum. */
        private boolean isLikeEarlier(int smith) {
            for (int earlier = 0; earlier < smith; earlier++) {
                if (sums[earlier] == sums[smith]) {
                    return true;
                }
            }
            return false;
        }
    }
}
