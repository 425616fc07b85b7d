/** Counts answers that are not as due, tells them, and ends a test with exit code 1 if there was one. */
final class Checks {
    private int done = 0;
    private int wrong = 0;

    void due(String promise, long got, long want) {
        done++;
        if (got != want) {
            wrong++;
            System.out.println(promise + ": answered " + got + ", due is " + want);
        }
    }

    /** Answers told one behind another. */
    void row(String promise, long[] got, long... want) {
        due(promise + ", how many", got.length, want.length);
        for (int i = 0; i < Math.min(got.length, want.length); i++) {
            due(promise + ", at " + i, got[i], want[i]);
        }
    }

    static void say(FlameBend x, String orders) {
        for (char sign : orders.toCharArray()) {
            x.say(sign);
        }
    }

    static int take(FlameBend x, String orders) {
        say(x, orders);
        return x.take();
    }

    static FlameBend working(String orders) {
        FlameBend x = new FlameBend();
        take(x, orders);
        return x;
    }

    /** Wishes what a BEND of so much at column 4 makes: the last column is so much higher. */
    static void wishFold(FlameBend x, int v) {
        for (int row = 0; row < 6; row++) {
            x.wish(6 * row + 5, v);
        }
    }

    void end(String test) {
        System.out.println(test + ": " + done + " answers, " + wrong + " of them not as due");
        System.exit(wrong == 0 && done > 0 ? 0 : 1);
    }
}
