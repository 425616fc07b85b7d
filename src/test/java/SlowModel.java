import java.math.BigInteger;
import java.util.ArrayList;
import java.util.List;
import java.util.TreeMap;
import java.util.regex.Matcher;
import java.util.regex.Pattern;

/** The document once more, as slowly and as literally as can be, to hold the class against. */
final class SlowModel {
    record Pass(int line, int strength, boolean water, boolean back) { }

    record Weld(int line, int pull) { }

    private static final Pattern ORDERS = Pattern.compile("[vh][1-4][1-9]w?b?(;[vh][1-4][1-9]w?b?)*");
    private static final int[] LEAST = {0, 0, 0, 1, 0, 0};
    private static final int[] MOST = {30, 50, 100, 100000, 1000000, 30};

    private String signs = "";
    private final List<Pass> work = new ArrayList<>();
    private final List<Pass> items = new ArrayList<>();
    private final List<Weld> welds = new ArrayList<>();
    private final TreeMap<Integer, Integer> gauges = new TreeMap<>();
    private final int[][] table = new int[10][2];
    private final int[] settings = {5, 10, 30, 1, 0, 10};
    private final int[] wishes = new int[36];
    private final int[][] spans = new int[10][2];

    SlowModel() {
        for (int strength = 1; strength <= 9; strength++) {
            table[strength][0] = 10 * strength;
            table[strength][1] = 10 * strength + 5;
            spans[strength][1] = 1000;
        }
    }

    private static boolean in(int v, int from, int to) {
        return from <= v && v <= to;
    }

    // ---- work

    int say(int sign) {
        if (!in(sign, 33, 126)) {
            return -2;
        }
        if (signs.length() == 50) {
            return -4;
        }
        signs += (char) sign;
        return signs.length();
    }

    int wipe() {
        int n = signs.length();
        signs = "";
        return n;
    }

    int fault() {
        if (ORDERS.matcher(signs).matches()) {
            return -6;
        }
        for (int n = 1; n <= signs.length(); n++) {
            Matcher matcher = ORDERS.matcher(signs.substring(0, n));
            if (!matcher.matches() && !matcher.hitEnd()) {
                return n - 1;
            }
        }
        return signs.length();
    }

    int take() {
        if (fault() != -6) {
            return -5;
        }
        List<Pass> more = new ArrayList<>();
        for (String one : signs.split(";")) {
            int line = one.charAt(1) - '1' + (one.startsWith("h") ? 4 : 0);
            more.add(new Pass(line, one.charAt(2) - '0', one.contains("w"), one.contains("b")));
        }
        if (work.size() + more.size() > 12) {
            return -4;
        }
        work.addAll(more);
        signs = "";
        return work.size();
    }

    int strike(int n) {
        if (!in(n, 0, work.size())) {
            return -2;
        }
        for (int k = 0; k < n; k++) {
            work.remove(work.size() - 1);
        }
        return work.size();
    }

    private int part(List<Pass> passes, int i) {
        int part = 100;
        int line = passes.get(i).line();
        for (int k = 0; k < i; k++) {
            int other = passes.get(k).line();
            if (other / 4 != line / 4) {
                part -= settings[0];
            } else if (other == line) {
                part -= settings[2];
            } else if (Math.abs(other - line) == 1) {
                part -= settings[1];
            }
        }
        return part < 0 ? 0 : part;
    }

    private int bent(List<Pass> passes, int i) {
        Pass pass = passes.get(i);
        int bent = table[pass.strength()][pass.water() ? 1 : 0] * part(passes, i) / 100;
        return pass.back() ? -bent : bent;
    }

    private static int time(Pass pass) {
        return 10 - pass.strength() + (pass.water() ? 3 : 0);
    }

    int pass(int i, int what) {
        if (!in(i, 0, work.size() - 1)) {
            return -1;
        }
        Pass pass = work.get(i);
        return switch (what) {
            case 0 -> pass.line();
            case 1 -> pass.strength();
            case 2 -> pass.water() ? 1 : 0;
            case 3 -> pass.back() ? 1 : 0;
            case 4 -> part(work, i);
            case 5 -> bent(work, i);
            case 6 -> time(pass);
            default -> -2;
        };
    }

    int table(int strength, int water, int v) {
        if (!in(strength, 1, 9) || !in(water, 0, 1) || !in(v, 0, 1000)) {
            return -2;
        }
        int was = table[strength][water];
        table[strength][water] = v;
        return was;
    }

    int set(int which, int v) {
        if (!in(which, 0, 5) || !in(v, LEAST[which], MOST[which])) {
            return -2;
        }
        int was = settings[which];
        settings[which] = v;
        return was;
    }

    private int[] bends(List<Pass> passes) {
        int[] bends = new int[8];
        for (int i = 0; i < passes.size(); i++) {
            bends[passes.get(i).line()] += bent(passes, i);
        }
        return bends;
    }

    int bend(int line) {
        return in(line, 0, 7) ? bends(work)[line] : -2000000001;
    }

    static int height(int[] bends, int corner) {
        int height = 0;
        for (int line = 0; line < 8; line++) {
            int beyond = (line < 4 ? corner % 6 : corner / 6) - (line % 4 + 1);
            if (beyond > 0) {
                height += bends[line] * beyond;
            }
        }
        return height;
    }

    int height(int corner) {
        return in(corner, 0, 35) ? height(bends(work), corner) : -2000000001;
    }

    // ---- wishes

    int wish(int corner, int v) {
        if (!in(corner, 0, 35)) {
            return -2000000001;
        }
        if (!in(v, -100000, 100000)) {
            return -2000000002;
        }
        int was = wishes[corner];
        wishes[corner] = v;
        return was;
    }

    /** Five times what is left of a height over the plane through three. */
    private static int hung(int h, int h0, int h5, int h30, int corner) {
        int x = corner % 6;
        int y = corner / 6;
        return 5 * h - (h0 * (5 - x - y) + h5 * x + h30 * y);
    }

    private int miss(int[] bends, int corner) {
        int[] apart = new int[36];
        for (int c = 0; c < 36; c++) {
            apart[c] = height(bends, c) - wishes[c];
        }
        return hung(apart[corner], apart[0], apart[5], apart[30], corner);
    }

    private int worst(int[] bends) {
        int[] apart = new int[36];
        for (int c = 0; c < 36; c++) {
            apart[c] = height(bends, c) - wishes[c];
        }
        int worst = 0;
        for (int c = 0; c < 36; c++) {
            worst = Math.max(worst, Math.abs(hung(apart[c], apart[0], apart[5], apart[30], c)));
        }
        return worst;
    }

    int miss(int corner) {
        return in(corner, 0, 35) ? miss(bends(work), corner) : -2000000001;
    }

    int worst() {
        return worst(bends(work));
    }

    int twist(int corner) {
        if (!in(corner, 0, 35) || corner % 6 == 5 || corner / 6 == 5) {
            return -2000000001;
        }
        return wishes[corner] - wishes[corner + 1] - wishes[corner + 6] + wishes[corner + 7];
    }

    int bound() {
        int greatest = 0;
        for (int y = 0; y < 5; y++) {
            for (int x = 0; x < 5; x++) {
                greatest = Math.max(greatest, Math.abs(twist(6 * y + x)));
            }
        }
        return (int) Math.ceil(greatest * 5 / 4.0);
    }

    // ---- items

    int item(int line, int strength, boolean water, boolean back) {
        if (!in(line, 0, 7)) {
            return -1;
        }
        if (!in(strength, 1, 9)) {
            return -2;
        }
        if (items.size() == 10) {
            return -4;
        }
        items.add(new Pass(line, strength, water, back));
        return items.size() - 1;
    }

    int chosen(int most, int what) {
        if (!in(most, 0, 100000000) || !in(what, 0, 1)) {
            return -2;
        }
        for (int size = 0; size <= items.size(); size++) {
            int best = -5;
            int bestWorst = -5;
            for (int bits = 0; bits < 1 << items.size(); bits++) {
                if (Integer.bitCount(bits) != size) {
                    continue;
                }
                List<Pass> all = new ArrayList<>(work);
                for (int i = 0; i < items.size(); i++) {
                    if ((bits & 1 << i) != 0) {
                        all.add(items.get(i));
                    }
                }
                int worst = worst(bends(all));
                if (worst <= most && (best == -5 || worst < bestWorst)) {
                    best = bits;
                    bestWorst = worst;
                }
            }
            if (best != -5) {
                return what == 0 ? best : bestWorst;
            }
        }
        return -5;
    }

    /** The ITEM and WORST then; null, if there is none. */
    private int[] nextBehind(List<Pass> passes) {
        int[] best = null;
        for (int i = 0; i < items.size(); i++) {
            List<Pass> all = new ArrayList<>(passes);
            all.add(items.get(i));
            int worst = worst(bends(all));
            if (best == null || worst < best[1]) {
                best = new int[] {i, worst};
            }
        }
        return best == null || worst(bends(passes)) - best[1] < settings[3] ? null : best;
    }

    int next(int what) {
        if (!in(what, 0, 1)) {
            return -2;
        }
        int[] best = nextBehind(work);
        return best == null ? -6 : best[what];
    }

    int steps(int what) {
        if (!in(what, 0, 1)) {
            return -2;
        }
        List<Pass> all = new ArrayList<>(work);
        int done = 0;
        for (int[] best = nextBehind(all); best != null && done < 20; best = nextBehind(all)) {
            all.add(items.get(best[0]));
            done++;
        }
        return what == 0 ? done : worst(bends(all));
    }

    // ---- gauges

    int read(int corner, int v) {
        if (!in(corner, 0, 35)) {
            return -1;
        }
        if (!in(v, -100000, 100000)) {
            return -2;
        }
        return gauges.put(corner, v) == null ? 1 : 0;
    }

    int forget(int corner) {
        if (!in(corner, 0, 35)) {
            return -1;
        }
        return gauges.remove(corner) == null ? -5 : 1;
    }

    private boolean lacksHook() {
        return !gauges.containsKey(0) || !gauges.containsKey(5) || !gauges.containsKey(30);
    }

    int flat(int corner) {
        if (!gauges.containsKey(corner)) {
            return -2000000001;
        }
        if (lacksHook()) {
            return -2000000003;
        }
        return hung(gauges.get(corner), gauges.get(0), gauges.get(5), gauges.get(30), corner);
    }

    int odd(int i) {
        if (lacksHook()) {
            return -3;
        }
        List<Integer> odd = new ArrayList<>();
        int[] bends = bends(work);
        for (int corner : gauges.keySet()) {
            int due = hung(height(bends, corner), height(bends, 0), height(bends, 5), height(bends, 30), corner);
            if (Math.abs(flat(corner) - due) > settings[4]) {
                odd.add(corner);
            }
        }
        if (i == -1) {
            return odd.size();
        }
        return in(i, 0, odd.size() - 1) ? odd.get(i) : -6;
    }

    /** The sum and how many; null, if nowhere all three are READ. */
    private BigInteger[] bendRead(int line) {
        int sum = 0;
        int many = 0;
        int place = line % 4 + 1;
        for (int k = 0; k < 6; k++) {
            Integer[] h = new Integer[3];
            for (int d = 0; d < 3; d++) {
                int along = place - 1 + d;
                h[d] = gauges.get(line < 4 ? 6 * k + along : 6 * along + k);
            }
            if (h[0] != null && h[1] != null && h[2] != null) {
                sum += h[0] - 2 * h[1] + h[2];
                many++;
            }
        }
        return many == 0 ? null : new BigInteger[] {BigInteger.valueOf(sum), BigInteger.valueOf(many)};
    }

    private static long lowest(BigInteger upper, BigInteger lower, int part) {
        BigInteger common = upper.gcd(lower);
        if (lower.signum() < 0) {
            common = common.negate();
        }
        return (part == 0 ? upper : lower).divide(common).longValueExact();
    }

    int bendRead(int line, int part) {
        if (!in(line, 0, 7)) {
            return -2000000001;
        }
        if (!in(part, 0, 1)) {
            return -2000000002;
        }
        BigInteger[] read = bendRead(line);
        return read == null ? -2000000003 : (int) lowest(read[0], read[1], part);
    }

    long skill(int part) {
        if (!in(part, 0, 1)) {
            return -2000000002;
        }
        BigInteger sixty = BigInteger.valueOf(60);
        BigInteger sum = BigInteger.ZERO;
        BigInteger bent = BigInteger.ZERO;
        for (int line = 0; line < 8; line++) {
            int itsLine = line;
            BigInteger[] read = bendRead(line);
            if (read != null && work.stream().anyMatch(pass -> pass.line() == itsLine)) {
                sum = sum.add(read[0].multiply(sixty).divide(read[1]));
                bent = bent.add(BigInteger.valueOf(bends(work)[line]));
            }
        }
        return bent.signum() == 0 ? -2000000003 : lowest(sum, bent.multiply(sixty), part);
    }

    int attempt(int strength, int bent, int by) {
        if (!in(strength, 1, 9) || !in(bent, 0, 1000) || !in(by, 0, 1000)) {
            return -2;
        }
        int from = Math.max(spans[strength][0], bent - by);
        int to = Math.min(spans[strength][1], bent + by);
        if (from > to) {
            return -5;
        }
        spans[strength][0] = from;
        spans[strength][1] = to;
        return 1;
    }

    int span(int strength, int end) {
        return in(strength, 1, 9) && in(end, 0, 1) ? spans[strength][end] : -2;
    }

    int widest() {
        int widest = 1;
        for (int strength = 9; strength >= 1; strength--) {
            if (spans[strength][1] - spans[strength][0] >= spans[widest][1] - spans[widest][0]) {
                widest = strength;
            }
        }
        return widest;
    }

    // ---- welds

    int weld(int line, int pull) {
        if (!in(line, 0, 7)) {
            return -1;
        }
        if (!in(pull, -500, 500)) {
            return -2;
        }
        if (welds.size() == 7) {
            return -4;
        }
        welds.add(new Weld(line, pull));
        return welds.size() - 1;
    }

    private List<Integer> bestOrder;
    private int bestOrderWorst;

    private void tryOrders(List<Integer> order, int[] bends) {
        if (order.size() == welds.size()) {
            int worst = worst(bends);
            if (bestOrder == null || worst < bestOrderWorst) {
                bestOrder = new ArrayList<>(order);
                bestOrderWorst = worst;
            }
            return;
        }
        for (int number = 0; number < welds.size(); number++) {
            if (!order.contains(number)) {
                Weld weld = welds.get(number);
                int[] then = bends.clone();
                then[weld.line()] += weld.pull() * Math.max(0, 100 - settings[5] * order.size()) / 100;
                order.add(number);
                tryOrders(order, then);
                order.remove(order.size() - 1);
            }
        }
    }

    int order(int i) {
        bestOrder = null;
        tryOrders(new ArrayList<>(), bends(work));
        if (i == -1) {
            return bestOrderWorst;
        }
        return in(i, 0, welds.size() - 1) ? bestOrder.get(i) : -6;
    }

    // ---- smiths

    int shared(int n, int i) {
        if (!in(n, 1, 3)) {
            return -2;
        }
        int sharings = 1;
        for (int k = 0; k < work.size(); k++) {
            sharings *= n;
        }
        int[] best = null;
        int least = 0;
        for (int sharing = 0; sharing < sharings; sharing++) {
            int[] smiths = new int[work.size()];
            int[] sums = new int[3];
            int rest = sharing;
            // the first PASS is the greatest digit, so that sharings come in order
            for (int k = work.size() - 1; k >= 0; k--) {
                smiths[k] = rest % n;
                rest /= n;
                sums[smiths[k]] += time(work.get(k));
            }
            int greatest = Math.max(sums[0], Math.max(sums[1], sums[2]));
            if (best == null || greatest < least) {
                best = smiths;
                least = greatest;
            }
        }
        if (i == -1) {
            return least;
        }
        return in(i, 0, work.size() - 1) ? best[i] : -6;
    }

    int told(int what) {
        return switch (what) {
            case 0 -> signs.length();
            case 1 -> work.size();
            case 2 -> items.size();
            case 3 -> gauges.size();
            case 4 -> welds.size();
            default -> in(what, 10, 15) ? settings[what - 10] : -2;
        };
    }
}
