/** Promises 1 to 14: a test for each of their sentences, with the boundary cases that it names. */
public final class PromisesTest {
    private static final int BAD_ARG = Subject.BAD_ARG;
    private static final int NONE = Subject.NONE;
    private static final int MIN = Integer.MIN_VALUE;
    private static final int MAX = Integer.MAX_VALUE;

    public static void main(String[] args) {
        promises1To4();
        promises5To10();
        promises11To14();
        Sentences.finish();
    }

    private static void promises1To4() {
        Sentences.holds("1: No cell is blocked", PromisesTest::newWithoutBlocked);
        Sentences.holds("1: all weights are 1", PromisesTest::newWeights);
        Sentences.holds("1: the only start is row 0, the only goal row 4", PromisesTest::newEnds);
        Sentences.holds("1: No family is loaded", () -> new Subject().dueNothingLoaded());
        Sentences.holds("2: The starts become the rows of the set starts, the goals those of goals",
            PromisesTest::endsBecome);
        Sentences.holds("2: BAD_ARG if one of the two is not 1 to 31", PromisesTest::endsNotRowSets);
        Sentences.holds("2: or they have not the same number of rows", PromisesTest::endsNotAsMany);
        Sentences.holds("2: or that is above 4", PromisesTest::endsAboveFour);
        Sentences.holds("2: Otherwise the number of starts", PromisesTest::endsCounted);
        Sentences.holds("2: No family is loaded any more", PromisesTest::endsUnload);
        Sentences.holds("3: Cell becomes blocked (on not 0) or not", PromisesTest::blockOnAndOff);
        Sentences.holds("3: BAD_ARG if cell is not 0 to 29", PromisesTest::blockNoCell);
        Sentences.holds("3: Otherwise 1 if it was blocked before, else 0", PromisesTest::blockedBefore);
        Sentences.holds("3: No family is loaded any more", PromisesTest::blockUnloads);
        Sentences.holds("4: Cell gets weight w", PromisesTest::weightGiven);
        Sentences.holds("4: BAD_ARG if cell is not 0 to 29", PromisesTest::weightNoCell);
        Sentences.holds("4: Otherwise 0", PromisesTest::weightAnswer);
    }

    private static void promises5To10() {
        Sentences.holds("5: The number of paths from start i to goal j", PromisesTest::pathsCounted);
        Sentences.holds("5: BAD_ARG if there is no start i or no goal j", PromisesTest::pathsNoEnd);
        Sentences.holds("6: The number of families", PromisesTest::familiesCounted);
        Sentences.holds("7: The sum of the weights of all families", PromisesTest::sums);
        Sentences.holds("7: (arithmetic wraps)", PromisesTest::sumWraps);
        Sentences.holds("8: The number of families with a path that has the cell", PromisesTest::throughCell);
        Sentences.holds("8: BAD_ARG if cell is not 0 to 29", PromisesTest::throughNoCell);
        Sentences.holds("9: families with a path that has both cells (on one path, or on two)",
            PromisesTest::throughTwoCells);
        Sentences.holds("9: BAD_ARG if a or b is not 0 to 29", PromisesTest::throughBothNoCell);
        Sentences.holds("10: The cells that are on a path of every family, counted", PromisesTest::mustsCounted);
        Sentences.holds("10: 0 if there is no family", PromisesTest::mustsNoFamily);
    }

    private static void promises11To14() {
        Sentences.holds("11: Loads the family with n others before it", PromisesTest::loads);
        Sentences.holds("11: NONE if there is none", PromisesTest::loadNone);
        Sentences.holds("11: then the family that was loaded stays loaded", PromisesTest::loadedStays);
        Sentences.holds("11: Otherwise 0", PromisesTest::loadAnswer);
        Sentences.holds("12: Cell number k, 0 the first, of path i of the loaded family", PromisesTest::cells);
        Sentences.holds("12: NONE if there is none", PromisesTest::cellNone);
        Sentences.holds("12: or no family is loaded", PromisesTest::cellNotLoaded);
        Sentences.holds("13: The weight of the loaded family", PromisesTest::weighsLoaded);
        Sentences.holds("13: 0 if none is loaded", PromisesTest::weighsNone);
        Sentences.holds("14: The number of families before the loaded one", PromisesTest::ranks);
        Sentences.holds("14: NONE if none is loaded", PromisesTest::rankNone);
    }

    private static String call(String name, int... arguments) {
        return Calls.of(name, arguments);
    }

    private static void newWithoutBlocked() {
        for (int c = 0; c < 30; c++) new Subject().due(call("block", c, 1), 0);
        Subject x = new Subject();
        x.due("families()", 126);
        for (int c = 0; c < 30; c++) Subject.after(call("block", c, 1));
        x.due("families()", 126);
    }

    private static void newWeights() {
        for (int c = 0; c < 30; c++) {
            int row = c % 5;
            Subject x = Subject.after(call("ends", 1 << row, 1 << row));
            for (int other = row; other < 30; other += 5) {
                if (other != c) x.ask(call("weight", other, 3));
            }
            x.due("sum()", 243);
        }
        new Subject().due("sum()", 126);
    }

    private static void newEnds() {
        Subject x = new Subject();
        x.due("paths(0, 0)", 126);
        x.due("paths(1, 0)", BAD_ARG);
        x.due("paths(0, 1)", BAD_ARG);
        x.due("load(0)", 0);
        x.due("cell(0, 0)", 0);
        x.due("cell(0, 9)", 29);
        x.due("cell(1, 0)", NONE);
        x.due("through(0)", 126);
        x.due("through(29)", 126);
    }

    private static void endsBecome() {
        Subject x = Subject.after("block(7, 1)", "weight(0, 5)");
        x.due("ends(1, 1)", 1);
        x.due("throughBoth(0, 25)", 1);
        x.due("ends(16, 16)", 1);
        x.due("throughBoth(4, 29)", 1);
        x.due("ends(30, 15)", 4);
        x.due("paths(3, 3)", 0);
        x.due("paths(0, 3)", 11);
        x.due("ends(18, 24)", 2);
        x.due("paths(0, 0)", 11);
        x.due("paths(1, 0)", 0);
        x.due("paths(1, 1)", 1);
        x.due("ends(1, 16)", 1);
        x.due("paths(1, 0)", BAD_ARG);
        x.due("paths(0, 1)", BAD_ARG);
        // Blocked cells and weights stay as they were.
        x.due("families()", 81);
        x.due("sum()", 405);
        x.due("block(7, 1)", 1);
    }

    private static void endsNotRowSets() {
        // Some of these would pass if only the lowest 5 binary digits, or only their number, counted.
        int[] notSets = {0, 32, 33, 34, 48, 63, 64, 1 << 30, (1 << 30) + 1, -1, -2, -31, -32, MIN, MIN + 1, MAX};
        for (int set : notSets) {
            Subject x = Subject.after("ends(3, 24)");
            x.due(call("ends", set, set), BAD_ARG);
            for (int good = 1; good <= 31; good++) {
                x.due(call("ends", set, good), BAD_ARG);
                x.due(call("ends", good, set), BAD_ARG);
            }
            x.due("families()", 490);
        }
    }

    private static void endsNotAsMany() {
        for (int starts = 1; starts <= 31; starts++) {
            Subject x = Subject.after("ends(3, 24)");
            for (int goals = 1; goals <= 31; goals++) {
                if (Integer.bitCount(starts) != Integer.bitCount(goals)) {
                    x.due(call("ends", starts, goals), BAD_ARG);
                }
            }
            x.due("families()", 490);
        }
    }

    private static void endsAboveFour() {
        Subject x = Subject.after("ends(3, 24)", "load(17)");
        x.due("ends(31, 31)", BAD_ARG);
        x.due("rank()", 17);
        for (int left = 0; left < 5; left++) {
            for (int out = 0; out < 5; out++) {
                x.due(call("ends", 31 - (1 << left), 31 - (1 << out)), 4);
            }
        }
    }

    private static void endsCounted() {
        for (int starts = 1; starts < 31; starts++) {
            for (int goals = 1; goals < 31; goals++) {
                int count = Integer.bitCount(starts);
                if (count == Integer.bitCount(goals)) {
                    new Subject().due(call("ends", starts, goals), count);
                }
            }
        }
    }

    private static void endsUnload() {
        for (String ends : new String[] {"ends(3, 24)", "ends(1, 16)", "ends(15, 30)", "ends(16, 1)"}) {
            Subject x = Subject.after("ends(3, 24)", "load(0)", ends);
            x.dueNothingLoaded();
        }
        Subject y = Subject.after("ends(3, 24)", "load(5)", "ends(1, 1)", "ends(3, 24)");
        y.dueNothingLoaded();
    }

    private static void blockOnAndOff() {
        for (int on : new int[] {1, 2, -1, -2, 256, 65536, 1 << 30, MIN, MAX}) {
            Subject x = Subject.after(call("block", 12, on));
            x.due("families()", 66);
            x.due("through(12)", 0);
            x.due(call("block", 12, on), 1);
            x.due("families()", 66);
            x.due("block(12, 0)", 1);
            x.due("families()", 126);
            x.due("through(12)", 60);
        }
        for (int c = 0; c < 30; c++) {
            int with = new Subject().ask(call("through", c));
            Subject x = Subject.after(call("block", c, 1));
            x.due("families()", 126 - with);
            x.due("paths(0, 0)", 126 - with);
        }
        Subject two = Subject.after("block(1, 1)", "block(25, 1)");
        two.due("families()", 69);
        two.due("block(1, 0)", 1);
        two.due("families()", 125);
        two.due("block(24, 0)", 0);
        two.due("families()", 125);
    }

    private static void blockNoCell() {
        for (int c : Subject.NOT_CELLS) {
            for (int on : new int[] {0, 1, -1, MIN}) {
                Subject x = Subject.after("load(5)");
                x.due(call("block", c, on), BAD_ARG);
                x.due("rank()", 5);
                x.due("families()", 126);
            }
        }
        Subject y = new Subject();
        y.due("block(0, 1)", 0);
        y.due("block(29, 1)", 0);
    }

    private static void blockedBefore() {
        for (int c = 0; c < 30; c++) {
            Subject x = new Subject();
            x.due(call("block", c, 0), 0);
            x.due(call("block", c, 7), 0);
            x.due(call("block", c, -7), 1);
            for (int other = 0; other < 30; other++) {
                if (other != c) x.due(call("block", other, 0), 0);
            }
            x.due(call("block", c, 0), 1);
            x.due(call("block", c, 0), 0);
        }
    }

    private static void blockUnloads() {
        // The first family runs through cell 5, and not through cell 1.
        for (String block : new String[] {"block(5, 1)", "block(1, 1)", "block(5, 0)", "block(1, 0)"}) {
            Subject x = Subject.after("load(0)", block);
            x.dueNothingLoaded();
        }
        Subject y = Subject.after("block(1, 1)", "load(0)", "block(1, 1)");
        y.dueNothingLoaded();
    }

    private static void weightGiven() {
        for (int c = 0; c < 30; c++) {
            int with = new Subject().ask(call("through", c));
            Subject x = Subject.after(call("weight", c, 99), call("weight", c, 4));
            x.due("sum()", 126 + 3 * with);
            x.due(call("weight", c, 1), 0);
            x.due("sum()", 126);
        }
        Subject y = Subject.after("load(3)", "weight(0, 2)");
        y.due("rank()", 3);
        y.due("block(0, 1)", 0);
        y.due("weight(0, 6)", 0);
        y.due("block(0, 0)", 1);
        y.due("sum()", 126 * 6);
    }

    private static void weightNoCell() {
        for (int c : Subject.NOT_CELLS) {
            for (int w : new int[] {0, 7, MIN}) {
                Subject x = Subject.after("load(5)");
                x.due(call("weight", c, w), BAD_ARG);
                x.due("sum()", 126);
                x.due("rank()", 5);
            }
        }
        Subject y = new Subject();
        y.due("weight(0, 7)", 0);
        y.due("weight(29, 7)", 0);
    }

    private static void weightAnswer() {
        for (int w : new int[] {0, 1, -1, -4, 7, MIN, MAX}) {
            Subject x = new Subject();
            for (int c = 0; c < 30; c++) {
                x.due(call("weight", c, w), 0);
                x.due(call("weight", c, w), 0);
            }
        }
    }

    private static void pathsCounted() {
        Subject x = Subject.after("ends(15, 30)");
        int[] byDowns = {1, 6, 21, 56, 126};
        for (int i = 0; i < 4; i++) {
            for (int j = 0; j < 4; j++) {
                int downs = j + 1 - i;
                x.due(call("paths", i, j), downs < 0 ? 0 : byDowns[downs]);
            }
        }
        x.due("weight(0, 0)", 0);
        x.due("paths(0, 3)", 126);
        x.due("block(1, 1)", 0);
        x.due("paths(1, 1)", 0);
        x.due("paths(0, 3)", 70);
        x.due("block(29, 1)", 0);
        x.due("paths(0, 3)", 0);
        x.due("paths(0, 2)", 35);
    }

    private static void pathsNoEnd() {
        String[] ends = {"ends(1, 1)", "ends(3, 3)", "ends(7, 7)", "ends(15, 15)"};
        for (int count = 1; count <= 4; count++) {
            Subject x = Subject.after("ends(15, 15)", ends[count - 1]);
            int last = count - 1;
            x.due(call("paths", last, last), 1);
            for (int e : new int[] {count, count + 1, 4, 5, -1, -4, MAX, MIN}) {
                x.due(call("paths", e, 0), BAD_ARG);
                x.due(call("paths", last, e), BAD_ARG);
                x.due(call("paths", e, e), BAD_ARG);
            }
        }
        // Without any path, a start that is not there is still refused.
        Subject y = Subject.after("ends(16, 1)");
        y.due("paths(0, 0)", 0);
        y.due("paths(1, 0)", BAD_ARG);
        y.due("paths(0, 1)", BAD_ARG);
    }

    private static void familiesCounted() {
        Subject x = new Subject();
        x.due("families()", 126);
        x.due("ends(3, 24)", 2);
        x.due("families()", 490);
        x.due("ends(7, 28)", 3);
        x.due("families()", 175);
        x.due("ends(15, 30)", 4);
        x.due("families()", 15);
        x.due("weight(0, 0)", 0);
        x.due("families()", 15);
        x.due("ends(30, 15)", 4);
        x.due("families()", 0);
        x.due("ends(1, 1)", 1);
        x.due("families()", 1);
        x.due("block(25, 1)", 0);
        x.due("families()", 0);
    }

    private static void sums() {
        Subject x = Subject.after("ends(3, 6)");
        x.due("sum()", 15);
        // Path 0 goes through cell 26 in every family, and through cell 25 in the first 5.
        x.due("weight(26, -2)", 0);
        x.due("sum()", -30);
        x.due("weight(25, 3)", 0);
        x.due("sum()", -50);
        x.due("weight(25, 0)", 0);
        x.due("sum()", -20);
        x.due("weight(3, 1000)", 0);
        x.due("sum()", -20);
        x.due("ends(2, 1)", 1);
        x.due("sum()", 0);
        Subject y = Subject.after("ends(15, 15)", "weight(0, 2)", "weight(6, 3)", "weight(12, 5)", "weight(28, -7)");
        y.due("sum()", -210);
    }

    private static void sumWraps() {
        Subject x = Subject.after(call("weight", 0, 1 << 30));
        x.due("sum()", MIN);
        x.due(call("weight", 0, MAX), 0);
        x.due("sum()", -126);
        x.due(call("weight", 0, MIN), 0);
        x.due("sum()", 0);
        x.due("ends(1, 2)", 1);
        x.due(call("weight", 0, 1000000000), 0);
        x.due("sum()", 1705032704);
        x.due(call("weight", 0, -1000000000), 0);
        x.due("sum()", -1705032704);
    }

    private static void throughCell() {
        Subject x = new Subject();
        x.due("through(0)", 126);
        x.due("through(29)", 126);
        x.due("through(4)", 1);
        x.due("through(25)", 1);
        x.due("through(1)", 56);
        x.due("through(5)", 70);
        x.due("block(5, 1)", 0);
        x.due("through(5)", 0);
        x.due("through(1)", 56);
        Subject y = Subject.after("ends(3, 6)");
        // On path 1 in 6 families, on path 0 in 3, on none in 6.
        y.due("through(11)", 9);
        y.due("through(3)", 0);
        y.due("ends(2, 1)", 1);
        for (int c = 0; c < 30; c++) y.due(call("through", c), 0);
    }

    private static void throughNoCell() {
        for (int c : Subject.NOT_CELLS) {
            new Subject().due(call("through", c), BAD_ARG);
            Subject.after("ends(16, 1)").due(call("through", c), BAD_ARG);
        }
    }

    private static void throughTwoCells() {
        Subject x = new Subject();
        for (int c = 0; c < 30; c++) x.due(call("throughBoth", c, c), x.ask(call("through", c)));
        x.due("throughBoth(0, 29)", 126);
        x.due("throughBoth(29, 0)", 126);
        x.due("throughBoth(6, 17)", 36);
        x.due("throughBoth(17, 6)", 36);
        x.due("throughBoth(1, 5)", 0);
        x.due("ends(3, 3)", 2);
        x.due("throughBoth(10, 11)", 1);
        x.due("throughBoth(11, 10)", 1);
        x.due("throughBoth(10, 15)", 1);
        x.due("throughBoth(16, 11)", 1);
        x.due("throughBoth(10, 12)", 0);
        x.due("throughBoth(12, 10)", 0);
        x.due("throughBoth(12, 12)", 0);
        x.due("block(10, 1)", 0);
        x.due("throughBoth(0, 1)", 0);
    }

    private static void throughBothNoCell() {
        for (int c : Subject.NOT_CELLS) {
            Subject x = new Subject();
            for (int good = 0; good < 30; good++) {
                x.due(call("throughBoth", c, good), BAD_ARG);
                x.due(call("throughBoth", good, c), BAD_ARG);
            }
            for (int bad : Subject.NOT_CELLS) x.due(call("throughBoth", c, bad), BAD_ARG);
        }
    }

    private static void mustsCounted() {
        Subject x = new Subject();
        x.due("musts()", 2);
        x.due("block(5, 1)", 0);
        x.due("musts()", 3);
        x.due("ends(16, 16)", 1);
        x.due("musts()", 6);
        x.due("ends(3, 24)", 2);
        x.due("musts()", 0);
        x.due("block(5, 0)", 1);
        x.due("musts()", 6);
        x.due("ends(15, 15)", 4);
        x.due("musts()", 24);
        x.due("weight(0, 0)", 0);
        x.due("musts()", 24);
        // Two families of 7 cells, one through cell 5, the other through cell 1.
        Subject y = Subject.after("ends(1, 2)", "block(10, 1)");
        y.due("families()", 2);
        y.due("musts()", 6);
    }

    private static void mustsNoFamily() {
        Subject x = Subject.after("ends(30, 15)");
        x.due("musts()", 0);
        x.due("ends(1, 1)", 1);
        x.due("musts()", 6);
        x.due("block(0, 1)", 0);
        x.due("musts()", 0);
        for (int c = 0; c < 30; c++) x.ask(call("block", c, 1));
        x.due("musts()", 0);
    }

    private static void loads() {
        Subject x = Subject.after("load(0)");
        x.due("cell(0, 5)", 25);
        x.due("load(125)", 0);
        x.due("cell(0, 4)", 4);
        x.due("load(1)", 0);
        x.due("cell(0, 5)", 21);
        x.due("load(0)", 0);
        x.due("cell(0, 5)", 25);
        x.due("block(25, 1)", 0);
        x.due("load(0)", 0);
        x.due("cell(0, 5)", 21);
    }

    private static void loadNone() {
        for (int n : new int[] {126, 127, 490, -1, -4, MAX, MIN}) {
            new Subject().due(call("load", n), NONE);
            Subject.after("load(125)").due(call("load", n), NONE);
        }
        for (int n : new int[] {0, 1, -1, -4}) {
            Subject.after("ends(2, 1)").due(call("load", n), NONE);
        }
        Subject x = Subject.after("ends(3, 24)");
        x.due("load(490)", NONE);
        x.due("ends(15, 15)", 4);
        x.due("load(1)", NONE);
        x.due("block(0, 1)", 0);
        x.due("load(0)", NONE);
    }

    private static void loadedStays() {
        for (int n : new int[] {126, 127, -1, -4, MAX, MIN}) {
            Subject x = Subject.after("weight(4, 7)", "load(125)");
            x.due(call("load", n), NONE);
            x.due("rank()", 125);
            x.due("loadedWeight()", 7);
            x.due("cell(0, 4)", 4);
            Subject y = Subject.after(call("load", n));
            y.dueNothingLoaded();
        }
    }

    private static void loadAnswer() {
        Subject x = new Subject();
        for (int n = 0; n < 126; n++) x.due(call("load", n), 0);
        x.due("load(125)", 0);
        Subject y = Subject.after("ends(3, 24)");
        for (int n = 0; n < 490; n++) y.due(call("load", n), 0);
        Subject.after("ends(1, 1)").due("load(0)", 0);
    }

    private static void cells() {
        int[][] first = {{0, 5, 10, 15, 20, 25, 26, 27}, {1, 6, 11, 16, 21, 22, 23, 28}};
        Subject x = Subject.after("ends(3, 12)", "load(0)");
        for (int i = 0; i < 2; i++) {
            for (int k = 0; k < 8; k++) x.due(call("cell", i, k), first[i][k]);
        }
        int[] second = {0, 5, 10, 15, 20, 21, 26, 27, 28, 29};
        Subject y = Subject.after("load(1)");
        for (int k = 0; k < 10; k++) y.due(call("cell", 0, k), second[k]);
        Subject z = Subject.after("ends(15, 15)", "load(0)");
        for (int i = 0; i < 4; i++) {
            for (int k = 0; k < 6; k++) z.due(call("cell", i, k), 5 * k + i);
        }
    }

    private static void cellNone() {
        // Path 0 has 6 cells, path 1 has 9.
        Subject x = Subject.after("ends(15, 15)", "load(0)", "ends(3, 17)", "load(20)");
        x.due("cell(0, 5)", 25);
        x.due("cell(0, 6)", NONE);
        x.due("cell(1, 8)", 29);
        x.due("cell(1, 9)", NONE);
        for (int n : new int[] {-1, -4, 10, 29, 30, 31, 32, 64, MAX, MIN}) {
            for (int i = 0; i < 2; i++) x.due(call("cell", i, n), NONE);
            for (int k = 0; k < 10; k++) x.due(call("cell", n, k), NONE);
        }
        for (int i = 2; i < 5; i++) {
            for (int k = 0; k < 10; k++) x.due(call("cell", i, k), NONE);
        }
    }

    private static void cellNotLoaded() {
        Subject x = new Subject();
        for (int i = 0; i < 4; i++) {
            for (int k = 0; k < 10; k++) x.due(call("cell", i, k), NONE);
        }
        Subject.after("load(0)", "ends(1, 16)").due("cell(0, 0)", NONE);
        Subject.after("load(0)", "block(1, 1)").due("cell(0, 0)", NONE);
        Subject.after("load(126)").due("cell(0, 0)", NONE);
    }

    private static void weighsLoaded() {
        Subject x = Subject.after("load(0)");
        x.due("loadedWeight()", 1);
        x.due("weight(10, -3)", 0);
        x.due("loadedWeight()", -3);
        x.due("weight(1, 100)", 0);
        x.due("loadedWeight()", -3);
        x.due("load(125)", 0);
        x.due("loadedWeight()", 100);
        x.due(call("weight", 4, MAX), 0);
        x.due("loadedWeight()", -100);
        x.due("weight(4, 0)", 0);
        x.due("loadedWeight()", 0);
        Subject y = Subject.after("weight(5, 3)", "weight(6, 5)", "weight(7, 2)", "ends(3, 3)", "load(0)");
        y.due("loadedWeight()", 15);
    }

    private static void weighsNone() {
        new Subject().due("loadedWeight()", 0);
        Subject.after("load(126)").due("loadedWeight()", 0);
        Subject.after("load(0)", "ends(1, 16)").due("loadedWeight()", 0);
        Subject.after("load(0)", "block(12, 1)").due("loadedWeight()", 0);
        Subject.after("ends(16, 1)", "load(0)").due("loadedWeight()", 0);
    }

    private static void ranks() {
        Subject x = new Subject();
        for (int n = 0; n < 126; n++) {
            x.due(call("load", n), 0);
            x.due("rank()", n);
        }
        x.due("load(126)", NONE);
        x.due("rank()", 125);
        Subject y = Subject.after("ends(3, 24)", "load(489)");
        for (String question : new String[] {"families()", "sum()", "musts()", "through(3)", "throughBoth(3, 4)",
            "paths(0, 0)", "cell(0, 0)", "cell(9, 9)", "loadedWeight()", "weight(3, 4)"}) {
            y.ask(question);
            y.due("rank()", 489);
        }
    }

    private static void rankNone() {
        new Subject().due("rank()", NONE);
        Subject.after("load(-1)").due("rank()", NONE);
        Subject.after("load(2)", "ends(1, 16)").due("rank()", NONE);
        Subject.after("load(2)", "block(12, 0)").due("rank()", NONE);
        Subject.after("ends(16, 1)", "load(0)").due("rank()", NONE);
    }
}
