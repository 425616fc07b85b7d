/** Rows of calls on one object, each with the answer that is due; the rows of a promise bear its number. */
final class Edges {
    private final Checks checks;
    private FlameBend x = new FlameBend();
    private String promise = "";

    Edges(Checks checks) {
        this.checks = checks;
    }

    /** From here on rows are on a new object, behind these calls, and test this sentence of a promise. */
    void anew(String sentence, String... ahead) {
        promise = sentence;
        x = Calls.made(ahead);
    }

    /** From here on rows test another sentence, on the same object. */
    void also(String sentence) {
        promise = sentence;
    }

    FlameBend object() {
        return x;
    }

    void due(String call, long want) {
        checks.due(promise + ": " + call, Calls.answer(x, call), want);
    }

    /** One call for each number, with % in it where the number is put. */
    void dueEach(String call, int[] numbers, long want) {
        for (int number : numbers) {
            due(call.replace("%", Integer.toString(number)), want);
        }
    }
}
