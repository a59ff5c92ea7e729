/**
 * Long runs of mixed calls, right and wrong ones, on one object against the model: what a call
 * answers must not hang on how the object came to its state.
 */
public final class RunsTest {
    private static final int RUNS = 300;
    private static final String[] NAMES = {"ends", "block", "block", "weight", "weight", "paths", "families", "sum",
        "through", "throughBoth", "musts", "load", "load", "load", "cell", "cell", "cell", "loadedWeight", "rank"};

    public static void main(String[] args) {
        Sentences.holds("the model's answers, in long mixed runs", RunsTest::mixedRuns);
        Sentences.finish();
    }

    private static void mixedRuns() {
        for (int run = 0; run < RUNS; run++) {
            Mixed mixed = new Mixed(run);
            Subject x = new Subject();
            Model model = new Model();
            boolean same = true;
            // After a wrong answer the rest of the run would only tell the same fault again.
            for (int n = 0; n < Subject.MOST_CALLS && same; n++) {
                String call = mixedCall(mixed, model);
                same = x.due(call, model.ask(call));
            }
        }
    }

    private static String mixedCall(Mixed mixed, Model model) {
        String name = NAMES[mixed.below(NAMES.length)];
        switch (name) {
            case "ends": return mixed.below(3) == 0 ? Calls.of(name, rowSet(mixed), rowSet(mixed)) : mixed.ends();
            // More cells become free than blocked, or soon no family would be left.
            case "block": return Calls.of(name, cell(mixed), mixed.oneOf(0, 0, 0, 0, 1, -1, mixed.any()));
            case "weight": return Calls.of(name, cell(mixed), mixed.oneOf(0, 1, 1, 1, -1, 3, mixed.any()));
            case "paths": return Calls.of(name, mixed.below(6) - 1, mixed.below(6) - 1);
            case "through": return Calls.of(name, cell(mixed));
            case "throughBoth": return Calls.of(name, cell(mixed), cell(mixed));
            case "load": return Calls.of(name, place(mixed, model.ask("families()")));
            case "cell": return Calls.of(name, mixed.below(6) - 1, mixed.below(12) - 1);
            default: return Calls.of(name);
        }
    }

    private static int rowSet(Mixed mixed) {
        return mixed.below(8) == 0 ? mixed.any() : mixed.below(34) - 1;
    }

    private static int cell(Mixed mixed) {
        return mixed.below(12) == 0 ? mixed.oneOf(Subject.NOT_CELLS) : mixed.below(30);
    }

    private static int place(Mixed mixed, int families) {
        int there = mixed.below(Math.max(1, families));
        return mixed.oneOf(there, there, there, 0, families - 1, families, -1, mixed.any());
    }
}
