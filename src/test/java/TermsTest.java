import java.util.ArrayList;
import java.util.List;

/** The document's sections "What it is" and "Terms": each sentence that names a boundary case. */
public final class TermsTest {
    private static final int MIN = Integer.MIN_VALUE;
    private static final int MAX = Integer.MAX_VALUE;

    public static void main(String[] args) {
        Sentences.holds("An object is used for at most 512 calls after it has been made",
            TermsTest::lastOfAllCalls);
        Sentences.holds("cell (column c, row r) has number 5 * c + r, 0 to 29", TermsTest::cellNumbers);
        Sentences.holds("A cell may be BLOCKED", TermsTest::blockedCells);
        Sentences.holds("each has a WEIGHT, an int", TermsTest::weightsAreInts);
        Sentences.holds("There are up to 4 STARTS, and as many GOALS", TermsTest::upToFourEnds);
        Sentences.holds("start 0 is the one with the least row, and so on, likewise the goals",
            TermsTest::endsByRow);
        Sentences.holds("A PATH is a row of cells, none of them blocked", TermsTest::blockedOnPath);
        Sentences.holds("begins with the start's cell in column 0 and ends with the goal's cell in column 5",
            TermsTest::firstAndLastCells);
        Sentences.holds("one column to the right (a step to the RIGHT) or one row below it (a step DOWN)",
            TermsTest::steps);
        Sentences.holds("A FAMILY has a path from start i to goal i for each i", TermsTest::pathForEachEnd);
        Sentences.holds("no cell lies on two of its paths", TermsTest::pathsApart);
        Sentences.holds("the product of the weights of all cells on its paths", TermsTest::product);
        Sentences.holds("(arithmetic wraps)", TermsTest::productWraps);
        Sentences.holds("the one that steps to the right there comes first", TermsTest::pathOrder);
        Sentences.holds("ordered by their first paths that differ, path 0 looked at first",
            TermsTest::familyOrder);
        Sentences.holds("No call ever throws", TermsTest::neverThrows);
        Sentences.holds("A refused call answers the code named", TermsTest::refusedAnswers);
        Sentences.holds("A refused call changes nothing", TermsTest::refusedChangesNothing);
        Sentences.holds("BAD_ARG = -1", () -> Sentences.same("BAD_ARG", PathFamilies.BAD_ARG, -1));
        Sentences.holds("NONE = -4", () -> Sentences.same("NONE", PathFamilies.NONE, -4));
        Sentences.finish();
    }

    /** Every method once as call 512, after 511 others. */
    private static void lastOfAllCalls() {
        callNumber512("ends(15, 30)", 4);
        callNumber512("block(29, 1)", 0);
        callNumber512("weight(5, 7)", 0);
        callNumber512("paths(0, 0)", 56);
        callNumber512("families()", 490);
        callNumber512("sum()", 490 * 3);
        callNumber512("through(0)", 490);
        callNumber512("throughBoth(0, 1)", 490);
        callNumber512("musts()", 6);
        callNumber512("load(0)", 0);
        callNumber512("cell(1, 8)", 29);
        callNumber512("loadedWeight()", 3);
        callNumber512("rank()", 489);
    }

    private static void callNumber512(String call, int want) {
        Subject x = new Subject();
        for (int round = 0; round < 73; round++) {
            x.due("ends(3, 24)", 2);
            x.due("block(12, 1)", 0);
            x.due("block(12, 0)", 1);
            x.due("weight(0, 3)", 0);
            x.due("load(489)", 0);
            x.due("rank()", 489);
            x.due("loadedWeight()", 3);
        }
        x.due(call, want);
    }

    private static void cellNumbers() {
        for (int row = 0; row < 5; row++) {
            Subject x = Subject.after(endsOfRow(row), "load(0)");
            for (int column = 0; column < 6; column++) {
                x.due("cell(0, " + column + ")", 5 * column + row);
            }
        }
        Subject y = Subject.after("load(0)");
        for (int row = 0; row < 5; row++) y.due("cell(0, " + (5 + row) + ")", 25 + row);
        y.due("load(125)", 0);
        for (int row = 0; row < 5; row++) y.due("cell(0, " + row + ")", row);
        for (int cell : new int[] {0, 4, 25, 29}) y.due("block(" + cell + ", 1)", 0);
        y.due("block(-1, 1)", Subject.BAD_ARG);
        y.due("block(30, 1)", Subject.BAD_ARG);
    }

    private static String endsOfRow(int row) {
        return "ends(" + (1 << row) + ", " + (1 << row) + ")";
    }

    private static void blockedCells() {
        for (int cell = 0; cell < 30; cell++) {
            Subject one = Subject.after(endsOfRow(cell % 5), "block(" + cell + ", 1)");
            one.due("families()", 0);
        }
        Subject x = new Subject();
        for (int cell = 0; cell < 30; cell++) x.due("block(" + cell + ", 1)", 0);
        for (int row = 0; row < 5; row++) {
            x.due(endsOfRow(row), 1);
            x.due("families()", 0);
        }
        for (int column = 0; column < 6; column++) {
            x.due("families()", 0);
            x.due("block(" + (5 * column + 4) + ", 0)", 1);
        }
        x.due("families()", 1);
    }

    private static void weightsAreInts() {
        for (int w : new int[] {0, 1, -1, 2, 32768, 65536, MAX, MIN, MIN + 1}) {
            for (int cell = 0; cell < 30; cell++) {
                Subject x = Subject.after("weight(" + cell + ", " + w + ")", endsOfRow(cell % 5), "load(0)");
                x.due("loadedWeight()", w);
                x.due("sum()", w);
            }
        }
    }

    private static void upToFourEnds() {
        String[] calls = {"ends(1, 16)", "ends(3, 24)", "ends(7, 28)", "ends(15, 30)"};
        Subject x = new Subject();
        for (int count = 1; count <= 4; count++) {
            x.due(calls[count - 1], count);
            int last = count - 1;
            x.due("paths(" + last + ", " + last + ")", new int[] {126, 56, 21, 6}[last]);
            x.due("paths(" + count + ", " + last + ")", Subject.BAD_ARG);
            x.due("paths(" + last + ", " + count + ")", Subject.BAD_ARG);
        }
        x.due("ends(31, 31)", Subject.BAD_ARG);
        x.due("paths(3, 3)", 6);
    }

    private static void endsByRow() {
        // On a free board the number of paths tells how many rows the goal lies below the start.
        int[] byDowns = {1, 6, 21, 56, 126};
        for (int starts = 1; starts <= 31; starts++) {
            for (int goals = 1; goals <= 31; goals++) {
                if (!Model.areEnds(starts, goals)) continue;
                Subject x = Subject.after("ends(" + starts + ", " + goals + ")");
                for (int i = 0; i < Model.rows(starts).size(); i++) {
                    for (int j = 0; j < Model.rows(goals).size(); j++) {
                        int downs = Model.rows(goals).get(j) - Model.rows(starts).get(i);
                        x.due("paths(" + i + ", " + j + ")", downs < 0 ? 0 : byDowns[downs]);
                    }
                }
            }
        }
    }

    private static void blockedOnPath() {
        for (int cell = 0; cell < 30; cell++) {
            // The only path of row 2 goes straight on, its first and its last cell included.
            Subject x = Subject.after(endsOfRow(2), "block(" + cell + ", 1)");
            x.due("paths(0, 0)", cell % 5 == 2 ? 0 : 1);
            x.due("families()", cell % 5 == 2 ? 0 : 1);
        }
    }

    private static void firstAndLastCells() {
        for (int start = 0; start < 5; start++) {
            for (int goal = start; goal < 5; goal++) {
                Subject x = Subject.after("ends(" + (1 << start) + ", " + (1 << goal) + ")");
                int last = x.ask("families()") - 1;
                for (int n : new int[] {0, last}) {
                    x.due("load(" + n + ")", 0);
                    x.due("cell(0, 0)", start);
                    x.due("cell(0, " + (5 + goal - start) + ")", 25 + goal);
                    x.due("cell(0, " + (6 + goal - start) + ")", Subject.NONE);
                }
            }
        }
        Subject y = new Subject();
        y.due("through(4)", 1);
        y.due("through(25)", 1);
    }

    private static void steps() {
        for (int start = 1; start < 5; start++) {
            for (int goal = 0; goal < start; goal++) {
                // Cell 4 has number 5 after it, but no row below it: numbers that follow are no step.
                Subject x = Subject.after("ends(" + (1 << start) + ", " + (1 << goal) + ")");
                x.due("paths(0, 0)", 0);
                x.due("families()", 0);
            }
        }
        Subject y = Subject.after("ends(8, 16)");
        y.due("paths(0, 0)", 6);
        for (int cell = 0; cell < 30; cell++) {
            int column = cell / 5;
            int want = cell % 5 == 3 ? 6 - column : cell % 5 == 4 ? column + 1 : 0;
            y.due("through(" + cell + ")", want);
        }
    }

    private static void pathForEachEnd() {
        Subject x = Subject.after("ends(3, 3)", "block(11, 1)");
        x.due("paths(0, 0)", 1);
        x.due("paths(1, 1)", 0);
        x.due("families()", 0);
        Subject y = Subject.after("ends(18, 17)");
        y.due("paths(0, 1)", 56);
        y.due("paths(1, 1)", 1);
        y.due("paths(0, 0)", 0);
        y.due("families()", 0);
        Subject z = Subject.after("ends(23, 23)");
        z.due("families()", 1);
        z.due("block(14, 1)", 0);
        z.due("families()", 0);
    }

    /** Leaves free one path from row 0 to row 2 and one from row 2 to row 4, which share cell 12. */
    private static Subject meetingPaths() {
        Subject x = Subject.after("ends(5, 20)");
        List<Integer> free = List.of(0, 5, 10, 11, 2, 7, 12, 17, 22, 27, 13, 14, 19, 24, 29);
        for (int cell = 0; cell < 30; cell++) {
            if (!free.contains(cell)) x.ask("block(" + cell + ", 1)");
        }
        return x;
    }

    private static void pathsApart() {
        Subject x = meetingPaths();
        x.due("paths(0, 0)", 1);
        x.due("paths(1, 1)", 1);
        x.due("families()", 0);
        x.due("load(0)", Subject.NONE);
        x.due("block(16, 0)", 1);
        x.due("paths(0, 0)", 2);
        x.due("families()", 1);
        // Paths that only touch are apart.
        Subject y = Subject.after("ends(15, 15)");
        y.due("families()", 1);
        y.due("musts()", 24);
        // A path may not run over the start or the goal of another one.
        Subject z = Subject.after("ends(3, 24)");
        z.due("through(5)", 490);
        z.due("through(24)", 490);
    }

    private static void product() {
        Subject x = Subject.after("ends(15, 15)", "load(0)");
        int want = 1;
        for (int cell : new int[] {0, 25, 3, 28, 11, 17}) {
            want *= cell + 2;
            x.due("weight(" + cell + ", " + (cell + 2) + ")", 0);
            x.due("loadedWeight()", want);
            x.due("sum()", want);
        }
        x.due("weight(4, 0)", 0);
        x.due("loadedWeight()", want);
        x.due("weight(28, 0)", 0);
        x.due("loadedWeight()", 0);
    }

    private static void productWraps() {
        int[][] cases = {{65536, 65536, 0}, {65536, 32768, MIN}, {MAX, MAX, 1}, {MAX, 2, -2},
            {MIN, -1, MIN}, {MIN, 2, 0}, {MIN, MIN, 0}, {MIN, 3, MIN}, {65537, 65537, 131073},
            {46341, 46341, -2147479015}};
        for (int[] c : cases) {
            Subject x = Subject.after("load(0)", "weight(0, " + c[0] + ")", "weight(29, " + c[1] + ")");
            x.due("loadedWeight()", c[2]);
        }
        Subject y = Subject.after("ends(15, 15)", "load(0)");
        for (int cell = 0; cell < 30; cell++) y.ask("weight(" + cell + ", 3)");
        // 3 to the power of 24 is 282429536481.
        y.due("loadedWeight()", (int) 282429536481L);
    }

    /** The steps of path i of the loaded family, r before x as right comes before down. */
    private static String stepsOf(Subject x, int i) {
        List<Integer> cells = x.path(i);
        StringBuilder steps = new StringBuilder();
        for (int k = 1; k < cells.size(); k++) {
            int step = cells.get(k) - cells.get(k - 1);
            if (step != 5 && step != 1) Sentences.wrong("no step: " + cells);
            steps.append(step == 5 ? 'r' : 'x');
        }
        return steps.toString();
    }

    private static void dueInOrder(int paths, int families, String... setUp) {
        String before = "";
        for (int n = 0; n < families; n++) {
            Subject x = Subject.after(setUp);
            x.due("families()", families);
            x.due("load(" + n + ")", 0);
            x.due("rank()", n);
            StringBuilder steps = new StringBuilder();
            for (int i = 0; i < paths; i++) steps.append(stepsOf(x, i)).append(' ');
            if (steps.toString().compareTo(before) <= 0) {
                Sentences.wrong(String.join(" ", setUp) + ": " + steps + "comes after " + before);
            }
            before = steps.toString();
        }
    }

    private static void pathOrder() {
        Subject x = Subject.after("ends(1, 2)");
        for (int n = 0; n < 6; n++) {
            int column = 5 - n;
            x.due("load(" + n + ")", 0);
            x.due("cell(0, " + column + ")", 5 * column);
            x.due("cell(0, " + (column + 1) + ")", 5 * column + 1);
        }
        dueInOrder(1, 126, "ends(1, 16)");
        dueInOrder(1, 66, "block(12, 1)", "weight(5, -1)");
        dueInOrder(1, 56, "ends(2, 16)");
    }

    private static void familyOrder() {
        Subject x = Subject.after("ends(3, 6)");
        int n = 0;
        // Path 0 steps down in this column, path 1 in one to the left of it.
        for (int column0 = 5; column0 >= 1; column0--) {
            for (int column1 = column0 - 1; column1 >= 0; column1--) {
                x.due("load(" + n++ + ")", 0);
                x.due("cell(0, " + column0 + ")", 5 * column0);
                x.due("cell(0, " + (column0 + 1) + ")", 5 * column0 + 1);
                x.due("cell(1, " + column1 + ")", 5 * column1 + 1);
                x.due("cell(1, " + (column1 + 1) + ")", 5 * column1 + 2);
            }
        }
        x.due("families()", n);
        dueInOrder(2, 490, "ends(3, 24)");
        dueInOrder(3, 210, "ends(11, 26)");
        dueInOrder(3, 175, "ends(7, 28)");
        dueInOrder(4, 15, "ends(15, 30)");
    }

    private static void neverThrows() {
        String[][] states = {{}, {"load(125)"}, {"ends(15, 30)", "load(14)"}, {"ends(3, 24)", "load(489)"},
            {"ends(16, 1)"}, {"block(0, 1)"}, {"ends(15, 30)", "load(14)", "ends(1, 16)"}};
        int[] numbers = {MIN, MIN + 1, -505, -491, -127, -31, -30, -5, -4, -1, 0, 1, 3, 4, 5, 9, 10, 15,
            29, 30, 31, 32, 125, 126, 127, 489, 490, 491, 504, 1 << 29, 1 << 30, MAX - 1, MAX};
        for (String[] state : states) {
            for (int a : numbers) {
                Subject x = Subject.after(state);
                callWithOne(x, a);
                for (int b : numbers) callWithTwo(x, a, b);
                callWithNone(x);
            }
        }
    }

    private static void callWithNone(Subject x) {
        for (String name : new String[] {"families", "sum", "musts", "loadedWeight", "rank"}) {
            x.ask(name + "()");
        }
    }

    private static void callWithOne(Subject x, int a) {
        x.ask("through(" + a + ")");
        x.ask("load(" + a + ")");
    }

    private static void callWithTwo(Subject x, int a, int b) {
        // What unloads the family comes last, so that the others meet a loaded one.
        for (String name : new String[] {"cell", "paths", "throughBoth", "weight", "block", "ends"}) {
            x.ask(name + "(" + a + ", " + b + ")");
        }
        x.ask("load(0)");
        callWithNone(x);
    }

    /** Two ends, two blocked cells, a weight of its own for every cell, and a loaded family. */
    private static Subject richState() {
        Subject x = Subject.after("ends(3, 24)", "block(7, 1)", "block(16, 1)");
        for (int cell = 0; cell < 30; cell++) x.ask("weight(" + cell + ", " + (2 * cell + 3) + ")");
        x.due("load(10)", 0);
        return x;
    }

    private static List<String> refusedForBadArg() {
        List<String> calls = new ArrayList<>(List.of("ends(0, 0)", "ends(0, 1)", "ends(1, 0)", "ends(32, 1)",
            "ends(1, 32)", "ends(35, 24)", "ends(3, 56)", "ends(-29, 24)", "ends(3, -8)", "ends(31, 31)",
            "ends(1, 24)", "ends(3, 8)", "ends(7, 24)", "ends(31, 15)", "ends(15, 31)", "ends(16, 6)",
            "ends(24, 1)", "ends(12, 14)", "ends(30, 3)", "ends(24, 0)", "ends(0, 3)", "ends(24, 32)",
            "paths(-1, 0)", "paths(0, -1)", "paths(2, 0)", "paths(0, 2)", "paths(4, 4)"));
        for (int c : Subject.NOT_CELLS) {
            calls.addAll(List.of("block(" + c + ", 1)", "block(" + c + ", 0)", "weight(" + c + ", 99)",
                "through(" + c + ")", "throughBoth(" + c + ", 0)", "throughBoth(0, " + c + ")"));
        }
        return calls;
    }

    private static List<String> refusedForNone() {
        return List.of("load(67)", "load(68)", "load(490)", "load(-1)", "load(-4)", "load(" + MAX + ")",
            "load(" + MIN + ")", "cell(2, 0)", "cell(-1, 0)", "cell(0, 9)", "cell(1, 9)", "cell(0, -1)",
            "cell(" + MAX + ", " + MAX + ")", "cell(" + MIN + ", " + MIN + ")");
    }

    private static void refusedAnswers() {
        for (String call : refusedForBadArg()) richState().due(call, Subject.BAD_ARG);
        for (String call : refusedForNone()) richState().due(call, Subject.NONE);
    }

    private static void refusedChangesNothing() {
        List<String> calls = new ArrayList<>(refusedForBadArg());
        calls.addAll(refusedForNone());
        List<Integer> untouched = richState().lastWords();
        for (String call : calls) {
            Subject x = richState();
            x.ask(call);
            Sentences.same("the state after " + call, x.lastWords(), untouched);
        }
    }
}
