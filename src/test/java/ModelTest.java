import java.util.ArrayList;
import java.util.List;

/** One board after another: every question that can be asked of it, against the model. */
public final class ModelTest {
    private final String[] setUp;
    private Subject x;
    private Model model;
    private int calls = Subject.MOST_CALLS;

    private ModelTest(String... setUp) {
        this.setUp = setUp;
    }

    public static void main(String[] args) {
        Sentences.holds("the model's answers, for all ends on the free board", ModelTest::allEnds);
        Sentences.holds("the model's answers, with blocked cells and weights", ModelTest::mixedBoards);
        Sentences.finish();
    }

    private static void allEnds() {
        for (int starts = 0; starts <= 32; starts++) {
            for (int goals = 0; goals <= 32; goals++) {
                String ends = Calls.of("ends", starts, goals);
                if (Model.areEnds(starts, goals)) {
                    new ModelTest(ends).compare();
                } else {
                    new Subject().due(ends, Subject.BAD_ARG);
                }
            }
        }
    }

    private static void mixedBoards() {
        Mixed mixed = new Mixed(1);
        for (int round = 0; round < 400; round++) {
            List<String> setUp = new ArrayList<>();
            setUp.add(mixed.ends());
            for (int c = 0; c < 30; c++) {
                if (mixed.below(16) < round % 4) setUp.add(Calls.of("block", c, 1));
                setUp.add(Calls.of("weight", c, round % 3 == 0 ? mixed.any() : mixed.any() % 4));
            }
            new ModelTest(setUp.toArray(new String[0])).compare();
        }
    }

    private void compare() {
        compareCounts();
        compareThrough();
        compareLoaded();
    }

    /** Makes sure the object stands this many calls more, taking a new one if not. */
    private void makeRoom(int more) {
        if (calls + more > Subject.MOST_CALLS) {
            x = Subject.after(setUp);
            model = new Model(setUp);
            calls = setUp.length;
        }
        calls += more;
    }

    private void same(String name, int... arguments) {
        String call = Calls.of(name, arguments);
        x.due(call, model.ask(call));
    }

    private void compareCounts() {
        makeRoom(28);
        same("families");
        same("sum");
        same("musts");
        for (int i = 0; i < 5; i++) {
            for (int j = 0; j < 5; j++) same("paths", i, j);
        }
    }

    private void compareThrough() {
        for (int a = 0; a < 30; a++) {
            makeRoom(31);
            same("through", a);
            for (int b = 0; b < 30; b++) same("throughBoth", a, b);
        }
    }

    private void compareLoaded() {
        makeRoom(0);
        int families = model.ask("families()");
        for (int n = 0; n < families; n++) {
            makeRoom(58);
            same("load", n);
            same("rank");
            same("loadedWeight");
            for (int i = 0; i < 5; i++) {
                for (int k = 0; k < 11; k++) same("cell", i, k);
            }
        }
        makeRoom(2);
        same("load", families);
        same("rank");
    }
}
