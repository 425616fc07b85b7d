import java.util.ArrayList;
import java.util.List;
import java.util.function.Supplier;

/** All that later calls tell of an object, in two halves so that no object has more than 512 calls. */
final class Told {
    private final List<String> rows = new ArrayList<>();

    private Told() {
    }

    /** What is told of an object that is made twice, each time the same way. */
    static List<String> of(Supplier<FlameBend> maker) {
        Told told = new Told();
        told.workAndShape(maker.get());
        told.plansAndGauges(maker.get());
        return told.rows;
    }

    private void ask(FlameBend x, String call) {
        rows.add(call + " = " + Calls.answer(x, call));
    }

    private void askEach(FlameBend x, String call, int from, int to) {
        for (int number = from; number <= to; number++) {
            ask(x, call.replace("%", Integer.toString(number)));
        }
    }

    private void workAndShape(FlameBend x) {
        askEach(x, "told(%)", 0, 4);
        askEach(x, "told(%)", 10, 15);
        ask(x, "fault()");
        int passes = x.told(1);
        for (int i = 0; i < passes; i++) {
            askEach(x, "pass(" + i + ", %)", 0, 6);
        }
        askEach(x, "bend(%)", 0, 7);
        askEach(x, "height(%)", 0, 35);
        askEach(x, "miss(%)", 0, 35);
        ask(x, "worst()");
        ask(x, "bound()");
        for (int n = 1; n <= 3; n++) {
            askEach(x, "shared(" + n + ", %)", -1, passes);
        }
        for (int strength = 1; strength <= 9; strength++) {
            askEach(x, "table(" + strength + ", %, 7)", 0, 1);
        }
        askEach(x, "wish(%, 7)", 0, 35);
        ask(x, "strike(" + passes + ")");
        ask(x, "take()");
        for (int i = 0; i < x.told(1); i++) {
            askEach(x, "pass(" + i + ", %)", 0, 3);
        }
        ask(x, "wipe()");
    }

    private void plansAndGauges(FlameBend x) {
        for (int most : new int[] {0, 50, 200, 1000, 100000000}) {
            askEach(x, "chosen(" + most + ", %)", 0, 1);
        }
        askEach(x, "next(%)", 0, 1);
        askEach(x, "steps(%)", 0, 1);
        askEach(x, "twist(%)", 0, 28);
        askEach(x, "flat(%)", 0, 35);
        askEach(x, "odd(%)", -1, 36);
        for (int line = 0; line < 8; line++) {
            askEach(x, "bendRead(" + line + ", %)", 0, 1);
        }
        askEach(x, "skill(%)", 0, 1);
        for (int strength = 1; strength <= 9; strength++) {
            askEach(x, "span(" + strength + ", %)", 0, 1);
        }
        ask(x, "widest()");
        askEach(x, "order(%)", -1, 7);
    }
}
