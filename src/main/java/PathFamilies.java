/**
 * Families of paths that keep apart, on a board of cells.
 *
 * A set of cells is an int with bit n for cell n. Every step of a path leads to a cell with a
 * higher number, so such a set also tells the order of a path's cells.
 */
public final class PathFamilies {
    public static final int BAD_ARG = -1;
    public static final int NONE = -4;

    private static final int ROWS = 5;
    private static final int CELLS = 30;
    private static final int ALL_ROWS = 31;
    private static final int MAX_ENDS = 4;
    private static final int STEPS_RIGHT = 5;
    // Row 0 to row 4 of a free board: the ways to choose the 4 steps down among 9.
    private static final int MAX_PATHS = 126;
    // MAX_ENDS * MAX_PATHS
    private static final int PATH_SLOTS = 504;
    // Starts 0 and 1 with goals 3 and 4 on a free board: no other ends have as many.
    private static final int MAX_FAMILIES = 490;
    // MAX_ENDS * MAX_FAMILIES
    private static final int FAMILY_SLOTS = 1960;

    private final int[] weights = new int[CELLS];
    private int blockedCells;

    private final int[] startRows = new int[MAX_ENDS];
    private final int[] goalRows = new int[MAX_ENDS];
    private int endCount;

    // The paths from start i to goal i, in their order, from MAX_PATHS * i on.
    private final int[] pathCells = new int[PATH_SLOTS];
    private final int[] pathCounts = new int[MAX_ENDS];

    // All families in their order: MAX_ENDS paths of each, and the cells of all its paths.
    private final int[] familyPaths = new int[FAMILY_SLOTS];
    private final int[] familyCells = new int[MAX_FAMILIES];
    private int familyCount;

    private int loaded;

    public PathFamilies() {
        for (int c = 0; c < CELLS; c++) {
            weights[c] = 1;
        }
        blockedCells = 0;
        startRows[0] = 0;
        goalRows[0] = ROWS - 1;
        endCount = 1;
        listAnew();
    }

    public int ends(int starts, int goals) {
        if (!isRowSet(starts) || !isRowSet(goals)) {
            return BAD_ARG;
        }
        int count = countBits(starts);
        if (count > MAX_ENDS || count != countBits(goals)) {
            return BAD_ARG;
        }
        endCount = count;
        for (int i = 0; i < count; i++) {
            startRows[i] = member(starts, i);
            goalRows[i] = member(goals, i);
        }
        listAnew();
        return count;
    }

    public int block(int cell, int on) {
        if (!isCell(cell)) {
            return BAD_ARG;
        }
        int before = (blockedCells >> cell) & 1;
        if (on != 0) {
            blockedCells |= 1 << cell;
        } else {
            blockedCells &= ~(1 << cell);
        }
        listAnew();
        return before;
    }

    public int weight(int cell, int w) {
        if (!isCell(cell)) {
            return BAD_ARG;
        }
        weights[cell] = w;
        return 0;
    }

    public int paths(int i, int j) {
        if (!isEnd(i) || !isEnd(j)) {
            return BAD_ARG;
        }
        int downs = goalRows[j] - startRows[i];
        int codes = codeCount(downs);
        int count = 0;
        for (int code = 0; code < codes; code++) {
            if (freePath(startRows[i], downs, code) != 0) {
                count++;
            }
        }
        return count;
    }

    public int families() {
        return familyCount;
    }

    public int sum() {
        int total = 0;
        for (int f = 0; f < familyCount; f++) {
            total += weightOf(familyCells[f]);
        }
        return total;
    }

    public int through(int cell) {
        if (!isCell(cell)) {
            return BAD_ARG;
        }
        return countFamiliesWith(1 << cell);
    }

    public int throughBoth(int a, int b) {
        if (!isCell(a) || !isCell(b)) {
            return BAD_ARG;
        }
        return countFamiliesWith((1 << a) | (1 << b));
    }

    public int musts() {
        if (familyCount == 0) {
            return 0;
        }
        int common = familyCells[0];
        for (int f = 1; f < familyCount; f++) {
            common &= familyCells[f];
        }
        return countBits(common);
    }

    public int load(int n) {
        if (n < 0 || n >= familyCount) {
            return NONE;
        }
        loaded = n;
        return 0;
    }

    public int cell(int i, int k) {
        if (loaded == NONE || !isEnd(i)) {
            return NONE;
        }
        return member(familyPaths[MAX_ENDS * loaded + i], k);
    }

    public int loadedWeight() {
        if (loaded == NONE) {
            return 0;
        }
        return weightOf(familyCells[loaded]);
    }

    public int rank() {
        return loaded;
    }

    private static boolean isCell(int n) {
        return n >= 0 && n < CELLS;
    }

    private static boolean isRowSet(int set) {
        return set >= 1 && set <= ALL_ROWS;
    }

    private boolean isEnd(int i) {
        return i >= 0 && i < endCount;
    }

    private static int countBits(int set) {
        int count = 0;
        for (int n = 0; n < CELLS; n++) {
            count += (set >> n) & 1;
        }
        return count;
    }

    /** The member of the set with k lesser ones, or NONE. */
    private static int member(int set, int k) {
        int lesser = 0;
        for (int n = 0; n < CELLS; n++) {
            if (((set >> n) & 1) == 1) {
                if (lesser == k) {
                    return n;
                }
                lesser++;
            }
        }
        return NONE;
    }

    private int weightOf(int cells) {
        int product = 1;
        for (int c = 0; c < CELLS; c++) {
            if (((cells >> c) & 1) == 1) {
                product *= weights[c];
            }
        }
        return product;
    }

    private int countFamiliesWith(int cells) {
        int count = 0;
        for (int f = 0; f < familyCount; f++) {
            if ((familyCells[f] & cells) == cells) {
                count++;
            }
        }
        return count;
    }

    private void listAnew() {
        // The loaded family is known by its place in the list, which now means another one.
        loaded = NONE;
        for (int i = 0; i < MAX_ENDS; i++) {
            listPaths(i);
        }
        listFamilies();
    }

    private void listPaths(int i) {
        pathCounts[i] = 0;
        if (i >= endCount) {
            // One empty path lets the same loops list families of fewer than MAX_ENDS paths.
            addPath(i, 0);
            return;
        }
        int downs = goalRows[i] - startRows[i];
        int codes = codeCount(downs);
        for (int code = 0; code < codes; code++) {
            int cells = freePath(startRows[i], downs, code);
            if (cells != 0) {
                addPath(i, cells);
            }
        }
    }

    /**
     * A code has a binary digit for each step of a path, the first step's the highest, 0 for right
     * and 1 for down: so codes that count upwards meet the paths in their order.
     */
    private static int codeCount(int downs) {
        return downs < 0 ? 0 : 1 << (STEPS_RIGHT + downs);
    }

    /** The cells of the code's path; 0 if it has not so many steps down or meets a blocked cell. */
    private int freePath(int startRow, int downs, int code) {
        if (countBits(code) != downs) {
            return 0;
        }
        int at = startRow;
        int cells = 1 << at;
        for (int step = STEPS_RIGHT + downs - 1; step >= 0; step--) {
            at += ((code >> step) & 1) == 1 ? 1 : ROWS;
            cells |= 1 << at;
        }
        return (cells & blockedCells) == 0 ? cells : 0;
    }

    private void addPath(int i, int cells) {
        int count = pathCounts[i];
        if (count < MAX_PATHS) {
            pathCells[MAX_PATHS * i + count] = cells;
            pathCounts[i] = count + 1;
        }
    }

    private void listFamilies() {
        familyCount = 0;
        for (int a = 0; a < pathCounts[0]; a++) {
            int path0 = pathCells[a];
            for (int b = 0; b < pathCounts[1]; b++) {
                int path1 = pathCells[MAX_PATHS + b];
                if ((path0 & path1) == 0) {
                    listFamiliesWith(path0, path1);
                }
            }
        }
    }

    private void listFamiliesWith(int path0, int path1) {
        for (int c = 0; c < pathCounts[2]; c++) {
            int path2 = pathCells[2 * MAX_PATHS + c];
            if (((path0 | path1) & path2) != 0) {
                continue;
            }
            for (int d = 0; d < pathCounts[3]; d++) {
                int path3 = pathCells[3 * MAX_PATHS + d];
                if (((path0 | path1 | path2) & path3) == 0) {
                    addFamily(path0, path1, path2, path3);
                }
            }
        }
    }

    private void addFamily(int path0, int path1, int path2, int path3) {
        if (familyCount < MAX_FAMILIES) {
            int slot = MAX_ENDS * familyCount;
            familyPaths[slot] = path0;
            familyPaths[slot + 1] = path1;
            familyPaths[slot + 2] = path2;
            familyPaths[slot + 3] = path3;
            familyCells[familyCount] = path0 | path1 | path2 | path3;
            familyCount++;
        }
    }
}
