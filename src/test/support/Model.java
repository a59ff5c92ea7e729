import java.util.ArrayList;
import java.util.Collections;
import java.util.HashSet;
import java.util.List;
import java.util.Set;

/** A plain recursive model of the document, which takes calls as text and tells the answer due. */
public final class Model {
    private List<Integer> startRows = List.of(0);
    private List<Integer> goalRows = List.of(4);
    private final Set<Integer> blocked = new HashSet<>();
    private final int[] weights = new int[30];
    private final List<List<List<Integer>>> families = new ArrayList<>();
    /** The loaded family itself, not its place: empty if none is loaded. */
    private List<List<Integer>> loaded = List.of();

    public Model(String... calls) {
        for (int c = 0; c < 30; c++) weights[c] = 1;
        boardHasChanged();
        for (String call : calls) ask(call);
    }

    public int ask(String call) {
        int[] a = Calls.arguments(call);
        switch (Calls.name(call)) {
            case "ends": return ends(a[0], a[1]);
            case "block": return isCell(a[0]) ? block(a[0], a[1]) : Subject.BAD_ARG;
            case "weight": return isCell(a[0]) ? weight(a[0], a[1]) : Subject.BAD_ARG;
            case "paths": return isEnd(a[0]) && isEnd(a[1]) ? pathsBetween(a[0], a[1]).size() : Subject.BAD_ARG;
            case "families": return families.size();
            case "sum": return sum();
            case "through": return isCell(a[0]) ? familiesWith(a[0], a[0]) : Subject.BAD_ARG;
            case "throughBoth": return isCell(a[0]) && isCell(a[1]) ? familiesWith(a[0], a[1]) : Subject.BAD_ARG;
            case "musts": return musts();
            case "load": return load(a[0]);
            case "cell": return cell(a[0], a[1]);
            case "loadedWeight": return loaded.isEmpty() ? 0 : weightOf(loaded);
            case "rank": return loaded.isEmpty() ? Subject.NONE : families.indexOf(loaded);
            default: throw new IllegalArgumentException("no method " + call);
        }
    }

    private static boolean isCell(int n) {
        return 0 <= n && n <= 29;
    }

    private boolean isEnd(int i) {
        return 0 <= i && i < startRows.size();
    }

    public static List<Integer> rows(int set) {
        List<Integer> rows = new ArrayList<>();
        for (int r = 0; r < 5; r++) {
            if ((set & (1 << r)) != 0) rows.add(r);
        }
        return rows;
    }

    public static boolean areEnds(int starts, int goals) {
        boolean areSets = 1 <= starts && starts <= 31 && 1 <= goals && goals <= 31;
        return areSets && rows(starts).size() <= 4 && rows(starts).size() == rows(goals).size();
    }

    private int ends(int starts, int goals) {
        if (!areEnds(starts, goals)) return Subject.BAD_ARG;
        startRows = rows(starts);
        goalRows = rows(goals);
        boardHasChanged();
        return startRows.size();
    }

    private int block(int cell, int on) {
        int before = blocked.contains(cell) ? 1 : 0;
        if (on != 0) {
            blocked.add(cell);
        } else {
            blocked.remove(cell);
        }
        boardHasChanged();
        return before;
    }

    private int weight(int cell, int w) {
        weights[cell] = w;
        return 0;
    }

    private int sum() {
        int total = 0;
        for (List<List<Integer>> family : families) total += weightOf(family);
        return total;
    }

    private int familiesWith(int a, int b) {
        int count = 0;
        for (List<List<Integer>> family : families) {
            if (has(family, a) && has(family, b)) count++;
        }
        return count;
    }

    private static boolean has(List<List<Integer>> family, int cell) {
        for (List<Integer> path : family) {
            if (path.contains(cell)) return true;
        }
        return false;
    }

    private int musts() {
        int count = 0;
        for (int c = 0; c < 30; c++) {
            if (!families.isEmpty() && familiesWith(c, c) == families.size()) count++;
        }
        return count;
    }

    private int load(int n) {
        if (n < 0 || n >= families.size()) return Subject.NONE;
        loaded = families.get(n);
        return 0;
    }

    private int cell(int i, int k) {
        boolean there = 0 <= i && i < loaded.size() && 0 <= k && k < loaded.get(i).size();
        return there ? loaded.get(i).get(k) : Subject.NONE;
    }

    private int weightOf(List<List<Integer>> family) {
        int product = 1;
        for (List<Integer> path : family) {
            for (int c : path) product *= weights[c];
        }
        return product;
    }

    private void boardHasChanged() {
        loaded = List.of();
        families.clear();
        addFamilies(new ArrayList<>());
    }

    private void addFamilies(List<List<Integer>> chosen) {
        int i = chosen.size();
        if (i == startRows.size()) {
            families.add(new ArrayList<>(chosen));
            return;
        }
        for (List<Integer> path : pathsBetween(i, i)) {
            boolean apart = true;
            for (List<Integer> other : chosen) apart &= Collections.disjoint(path, other);
            if (!apart) continue;
            chosen.add(path);
            addFamilies(chosen);
            chosen.remove(i);
        }
    }

    private List<List<Integer>> pathsBetween(int i, int j) {
        List<List<Integer>> found = new ArrayList<>();
        addPaths(0, startRows.get(i), goalRows.get(j), new ArrayList<>(), found);
        return found;
    }

    private void addPaths(int column, int row, int goalRow, List<Integer> soFar, List<List<Integer>> found) {
        if (column > 5 || row > 4 || blocked.contains(5 * column + row)) return;
        soFar.add(5 * column + row);
        if (column == 5 && row == goalRow) {
            found.add(new ArrayList<>(soFar));
        } else {
            addPaths(column + 1, row, goalRow, soFar, found);
            addPaths(column, row + 1, goalRow, soFar, found);
        }
        soFar.remove(soFar.size() - 1);
    }
}
