import java.util.ArrayList;
import java.util.List;

/** An object under test that takes its calls as text, such as "ends(3, 24)", and keeps the run. */
public final class Subject {
    public static final int BAD_ARG = -1;
    public static final int NONE = -4;
    /** Ints that are no cells, the nearest and the farthest. */
    public static final int[] NOT_CELLS = {-1, 30, 31, 32, 35, 62, -2, -30, 1 << 30,
        Integer.MAX_VALUE, Integer.MIN_VALUE};
    /** The document promises nothing after so many calls on one object. */
    public static final int MOST_CALLS = 512;

    private final PathFamilies object = new PathFamilies();
    private final List<String> run = new ArrayList<>();

    /** A new object after these calls. */
    public static Subject after(String... calls) {
        Subject x = new Subject();
        for (String call : calls) x.ask(call);
        return x;
    }

    /** Whether the answer was the one that is due. */
    public boolean due(String call, int want) {
        int got = ask(call);
        if (got != want) Sentences.wrong(run + " answered " + got + ", due is " + want);
        return got == want;
    }

    public int ask(String call) {
        run.add(call);
        if (run.size() > MOST_CALLS) Sentences.wrong("the test itself makes too many calls");
        try {
            return answer(Calls.name(call), Calls.arguments(call));
        } catch (RuntimeException | Error e) {
            throw new IllegalStateException(run + " threw " + e);
        }
    }

    private int answer(String name, int[] args) {
        switch (name) {
            case "ends": return object.ends(args[0], args[1]);
            case "block": return object.block(args[0], args[1]);
            case "weight": return object.weight(args[0], args[1]);
            case "paths": return object.paths(args[0], args[1]);
            case "families": return object.families();
            case "sum": return object.sum();
            case "through": return object.through(args[0]);
            case "throughBoth": return object.throughBoth(args[0], args[1]);
            case "musts": return object.musts();
            case "load": return object.load(args[0]);
            case "cell": return object.cell(args[0], args[1]);
            case "loadedWeight": return object.loadedWeight();
            case "rank": return object.rank();
            default: throw new IllegalArgumentException("no method " + name);
        }
    }

    public void dueNothingLoaded() {
        due("rank()", NONE);
        due("loadedWeight()", 0);
        due("cell(0, 0)", NONE);
    }

    /** The cells of path i of the loaded family. */
    public List<Integer> path(int i) {
        List<Integer> cells = new ArrayList<>();
        int cell = ask("cell(" + i + ", 0)");
        while (cell != NONE && cells.size() < 30) {
            cells.add(cell);
            cell = ask("cell(" + i + ", " + cells.size() + ")");
        }
        return cells;
    }

    /** All that the object can still tell of its state; the object is of no use afterwards. */
    public List<Integer> lastWords() {
        List<Integer> told = new ArrayList<>();
        String[] questions = {"rank()", "loadedWeight()", "families()", "sum()", "musts()"};
        for (String question : questions) told.add(ask(question));
        for (int i = 0; i < 4; i++) {
            told.addAll(path(i));
            for (int j = 0; j < 4; j++) told.add(ask("paths(" + i + ", " + j + ")"));
        }
        for (int c = 0; c < 30; c++) told.add(ask("through(" + c + ")"));
        for (int c = 0; c < 30; c++) told.add(ask("block(" + c + ", 0)"));
        for (int c = 0; c < 30; c++) {
            int row = 1 << c % 5;
            ask("ends(" + row + ", " + row + ")");
            told.add(ask("sum()"));
            // The product of a row's weights tells each of them once those before it are 1.
            ask("weight(" + c + ", 1)");
        }
        return told;
    }
}
