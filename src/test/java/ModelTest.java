import java.util.ArrayList;
import java.util.Collections;
import java.util.HashSet;
import java.util.List;
import java.util.Set;

/**
 * Compares PathFamilies with a plain recursive model of the document's terms: on the free board
 * for all ends, and on many boards with blocked cells and weights.
 */
public final class ModelTest {
    // The document promises nothing after 512 calls on one object.
    private static final int MOST_CALLS = 512;
    private static int wrong = 0;

    private final int starts;
    private final int goals;
    private final boolean[] blocked;
    private final int[] weights;
    private final List<Integer> startRows;
    private final List<Integer> goalRows;
    private final List<List<List<Integer>>> families = new ArrayList<>();
    private PathFamilies x;
    private int calls = MOST_CALLS;

    private ModelTest(int starts, int goals, boolean[] blocked, int[] weights) {
        this.starts = starts;
        this.goals = goals;
        this.blocked = blocked;
        this.weights = weights;
        startRows = rows(starts);
        goalRows = rows(goals);
        addFamilies(new ArrayList<>());
    }

    private static List<Integer> rows(int set) {
        List<Integer> rows = new ArrayList<>();
        for (int r = 0; r < 5; r++) {
            if ((set & (1 << r)) != 0) rows.add(r);
        }
        return rows;
    }

    private void addFamilies(List<List<Integer>> chosen) {
        int i = chosen.size();
        if (i == startRows.size()) {
            families.add(new ArrayList<>(chosen));
            return;
        }
        for (List<Integer> path : pathsBetween(i, i)) {
            boolean apart = true;
            for (List<Integer> other : chosen) apart &= Collections.disjoint(path, other);
            if (!apart) continue;
            chosen.add(path);
            addFamilies(chosen);
            chosen.remove(i);
        }
    }

    private List<List<Integer>> pathsBetween(int i, int j) {
        List<List<Integer>> found = new ArrayList<>();
        addPaths(0, startRows.get(i), goalRows.get(j), new ArrayList<>(), found);
        return found;
    }

    private void addPaths(int column, int row, int goalRow, List<Integer> soFar, List<List<Integer>> found) {
        if (column > 5 || row > 4 || blocked[5 * column + row]) return;
        soFar.add(5 * column + row);
        if (column == 5 && row == goalRow) {
            found.add(new ArrayList<>(soFar));
        } else {
            addPaths(column + 1, row, goalRow, soFar, found);
            addPaths(column, row + 1, goalRow, soFar, found);
        }
        soFar.remove(soFar.size() - 1);
    }

    private int weightOf(List<List<Integer>> family) {
        int product = 1;
        for (List<Integer> path : family) {
            for (int c : path) product *= weights[c];
        }
        return product;
    }

    private static Set<Integer> cellsOf(List<List<Integer>> family) {
        Set<Integer> cells = new HashSet<>();
        for (List<Integer> path : family) cells.addAll(path);
        return cells;
    }

    /** Makes sure the object stands this many calls more, taking a new one if not. */
    private void makeRoom(int more) {
        if (calls + more <= MOST_CALLS) {
            calls += more;
            return;
        }
        x = new PathFamilies();
        calls = 1 + more;
        due("ends", x.ends(starts, goals), startRows.size());
        for (int c = 0; c < 30; c++) {
            if (blocked[c]) {
                due("block " + c, x.block(c, 1), 0);
                calls++;
            }
            if (weights[c] != 1) {
                due("weight " + c, x.weight(c, weights[c]), 0);
                calls++;
            }
        }
    }

    private void due(String call, int got, int want) {
        if (got != want) {
            wrong++;
            StringBuilder board = new StringBuilder();
            for (int c = 0; c < 30; c++) {
                if (blocked[c]) board.append(' ').append(c);
            }
            System.out.println("ends " + starts + " " + goals + ", blocked" + board + ": " + call
                + " answered " + got + ", due is " + want);
        }
    }

    private void compareCounts() {
        makeRoom(3);
        due("families()", x.families(), families.size());
        int total = 0;
        Set<Integer> common = new HashSet<>();
        for (int c = 0; c < 30; c++) common.add(c);
        for (List<List<Integer>> family : families) {
            total += weightOf(family);
            common.retainAll(cellsOf(family));
        }
        due("sum()", x.sum(), total);
        due("musts()", x.musts(), families.isEmpty() ? 0 : common.size());
        for (int i = 0; i < startRows.size(); i++) {
            for (int j = 0; j < goalRows.size(); j++) {
                makeRoom(1);
                due("paths(" + i + ", " + j + ")", x.paths(i, j), pathsBetween(i, j).size());
            }
        }
    }

    private void compareThrough() {
        int[][] both = new int[30][30];
        for (List<List<Integer>> family : families) {
            Set<Integer> cells = cellsOf(family);
            for (int a : cells) {
                for (int b : cells) both[a][b]++;
            }
        }
        for (int a = 0; a < 30; a++) {
            makeRoom(1);
            due("through(" + a + ")", x.through(a), both[a][a]);
            for (int b = 0; b < 30; b++) {
                makeRoom(1);
                due("throughBoth(" + a + ", " + b + ")", x.throughBoth(a, b), both[a][b]);
            }
        }
    }

    private void compareLoaded() {
        for (int n = 0; n < families.size(); n++) {
            makeRoom(60);
            List<List<Integer>> family = families.get(n);
            due("load(" + n + ")", x.load(n), 0);
            due("rank() of " + n, x.rank(), n);
            due("loadedWeight() of " + n, x.loadedWeight(), weightOf(family));
            for (int i = 0; i < family.size(); i++) {
                List<Integer> path = family.get(i);
                for (int k = 0; k < path.size(); k++) {
                    due("cell(" + i + ", " + k + ") of " + n, x.cell(i, k), path.get(k));
                }
                due("cell(" + i + ", end) of " + n, x.cell(i, path.size()), PathFamilies.NONE);
            }
        }
        makeRoom(3);
        int before = x.rank();
        due("load of one too many", x.load(families.size()), PathFamilies.NONE);
        due("rank() after it", x.rank(), before);
    }

    private void compare() {
        compareCounts();
        compareThrough();
        compareLoaded();
    }

    private static int[] ones() {
        int[] weights = new int[30];
        for (int c = 0; c < 30; c++) weights[c] = 1;
        return weights;
    }

    private static boolean areEnds(int starts, int goals) {
        int count = Integer.bitCount(starts);
        return count <= 4 && count == Integer.bitCount(goals);
    }

    private static void compareAllEnds() {
        for (int starts = 1; starts <= 31; starts++) {
            for (int goals = 1; goals <= 31; goals++) {
                if (areEnds(starts, goals)) {
                    new ModelTest(starts, goals, new boolean[30], ones()).compare();
                } else if (new PathFamilies().ends(starts, goals) != PathFamilies.BAD_ARG) {
                    wrong++;
                    System.out.println("ends(" + starts + ", " + goals + ") is not refused");
                }
            }
        }
    }

    private static int spread(int n) {
        n = (n ^ (n >>> 16)) * 0x7feb352d;
        n = (n ^ (n >>> 15)) * 0x846ca68b;
        return n ^ (n >>> 16);
    }

    /** Boards that look mixed but are the same in every run. */
    private static void compareMixedBoards() {
        int seed = 1;
        for (int round = 0; round < 400; round++) {
            int starts = 0;
            int goals = 0;
            while (!areEnds(starts, goals) || starts == 0) {
                starts = spread(seed++) & 31;
                goals = spread(seed++) & 31;
            }
            boolean[] blocked = new boolean[30];
            int[] weights = ones();
            for (int c = 0; c < 30; c++) {
                blocked[c] = (spread(seed++) & 15) < round % 4;
                int w = spread(seed++);
                weights[c] = round % 3 == 0 ? w : w % 4;
            }
            new ModelTest(starts, goals, blocked, weights).compare();
        }
    }

    public static void main(String[] args) {
        compareAllEnds();
        compareMixedBoards();
        System.out.println(wrong == 0 ? "all answers are the model's" : wrong + " answers are not the model's");
        if (wrong != 0) System.exit(1);
    }
}
