/** Each promise of the document by itself: ordinary inputs, its edges, wrong inputs. */
public final class PromisesTest {
    private static final int BAD_ARG = -1;
    private static final int NONE = -4;
    private static final int[] NOT_CELLS = {-1, 30, 31, 32, 62, -30, Integer.MAX_VALUE, Integer.MIN_VALUE};
    private static int wrong = 0;
    private static String promise = "";

    private static void due(String call, int got, int want) {
        if (got != want) {
            wrong++;
            System.out.println(promise + ": " + call + " answered " + got + ", due is " + want);
        }
    }

    public static void main(String[] args) {
        newObject();
        ends();
        endsRefused();
        block();
        blockRefused();
        weight();
        paths();
        families();
        sum();
        through();
        throughBoth();
        musts();
        load();
        cell();
        loadedWeight();
        rank();
        System.out.println(wrong == 0 ? "all promises hold" : wrong + " answers are not as due");
        if (wrong != 0) System.exit(1);
    }

    private static void newObject() {
        promise = "promise 1";
        PathFamilies x = new PathFamilies();
        due("rank()", x.rank(), NONE);
        due("loadedWeight()", x.loadedWeight(), 0);
        due("cell(0, 0)", x.cell(0, 0), NONE);
        due("paths(0, 0)", x.paths(0, 0), 126);
        due("paths(1, 1)", x.paths(1, 1), BAD_ARG);
        due("families()", x.families(), 126);
        due("sum()", x.sum(), 126);
        due("through(0)", x.through(0), 126);
        due("through(29)", x.through(29), 126);
        for (int c = 0; c < 30; c++) {
            due("block(" + c + ", 0)", x.block(c, 0), 0);
        }
        PathFamilies y = new PathFamilies();
        y.block(0, 1);
        y.weight(5, 9);
        due("families() of another object", x.families(), 126);
        due("sum() of another object", x.sum(), 126);
    }

    private static void ends() {
        promise = "promise 2";
        PathFamilies x = new PathFamilies();
        due("ends(1, 1)", x.ends(1, 1), 1);
        due("families()", x.families(), 1);
        due("ends(16, 16)", x.ends(16, 16), 1);
        due("through(4)", x.through(4), 1);
        due("ends(16, 1)", x.ends(16, 1), 1);
        due("families()", x.families(), 0);
        due("ends(18, 24)", x.ends(18, 24), 2);
        due("paths(0, 0) from row 1 to row 3", x.paths(0, 0), 21);
        due("paths(0, 1) from row 1 to row 4", x.paths(0, 1), 56);
        due("paths(1, 0) from row 4 to row 3", x.paths(1, 0), 0);
        due("paths(1, 1) from row 4 to row 4", x.paths(1, 1), 1);
        due("ends(7, 28)", x.ends(7, 28), 3);
        due("ends(30, 15)", x.ends(30, 15), 4);
        due("families()", x.families(), 0);
        due("ends(15, 15)", x.ends(15, 15), 4);
        due("load(0)", x.load(0), 0);
        due("ends(15, 15) again", x.ends(15, 15), 4);
        due("rank() after ends", x.rank(), NONE);
        due("cell(0, 0) after ends", x.cell(0, 0), NONE);
        due("loadedWeight() after ends", x.loadedWeight(), 0);
        due("ends(1, 16)", x.ends(1, 16), 1);
        due("paths(1, 0) with fewer ends than before", x.paths(1, 0), BAD_ARG);
        x.block(7, 1);
        x.weight(0, 5);
        x.ends(2, 8);
        x.ends(1, 16);
        due("block(7, 1) after ends", x.block(7, 1), 1);
        due("sum() after ends", x.sum(), 5 * x.families());
    }

    private static void endsRefused() {
        promise = "promise 2, refused";
        PathFamilies x = new PathFamilies();
        x.ends(3, 24);
        x.load(17);
        int[][] bad = {{0, 0}, {0, 1}, {1, 0}, {31, 31}, {32, 1}, {1, 32}, {32, 32}, {33, 3}, {3, 33},
            {-1, 1}, {1, -1}, {-1, -1}, {1, 3}, {3, 1}, {5, 7}, {31, 15}, {15, 31}, {15, 7},
            {Integer.MIN_VALUE, 1}, {1, Integer.MIN_VALUE}, {Integer.MIN_VALUE, Integer.MIN_VALUE},
            {Integer.MAX_VALUE, Integer.MAX_VALUE}, {1 << 30, 1 << 30}, {64, 64}};
        for (int[] b : bad) {
            due("ends(" + b[0] + ", " + b[1] + ")", x.ends(b[0], b[1]), BAD_ARG);
            due("rank() after it", x.rank(), 17);
            due("families() after it", x.families(), 490);
            due("paths(0, 0) after it", x.paths(0, 0), 56);
            due("paths(1, 0) after it", x.paths(1, 0), 21);
        }
    }

    private static void block() {
        promise = "promise 3";
        PathFamilies x = new PathFamilies();
        due("block(12, 1)", x.block(12, 1), 0);
        due("through(12)", x.through(12), 0);
        due("families()", x.families(), 66);
        due("block(12, -7)", x.block(12, -7), 1);
        due("block(12, 0)", x.block(12, 0), 1);
        due("block(12, 0) again", x.block(12, 0), 0);
        due("families()", x.families(), 126);
        int[] ons = {2, -1, 256, Integer.MIN_VALUE, Integer.MAX_VALUE};
        for (int on : ons) {
            due("block(6, " + on + ")", x.block(6, on), 0);
            due("block(6, 0) after it", x.block(6, 0), 1);
        }
        x.load(3);
        due("block(12, 0) that changes nothing", x.block(12, 0), 0);
        due("rank() after block", x.rank(), NONE);
        due("loadedWeight() after block", x.loadedWeight(), 0);
        due("cell(0, 0) after block", x.cell(0, 0), NONE);
        for (int c = 0; c < 30; c++) {
            due("block(" + c + ", 1)", x.block(c, 1), 0);
        }
        for (int c = 0; c < 30; c++) {
            due("block(" + c + ", 0)", x.block(c, 0), 1);
        }
        due("block(0, 1) of the start", x.block(0, 1), 0);
        due("families()", x.families(), 0);
        due("paths(0, 0)", x.paths(0, 0), 0);
        x.block(0, 0);
        due("block(29, 1) of the goal", x.block(29, 1), 0);
        due("families()", x.families(), 0);
    }

    private static void blockRefused() {
        promise = "promise 3, refused";
        PathFamilies x = new PathFamilies();
        x.load(5);
        for (int c : NOT_CELLS) {
            due("block(" + c + ", 1)", x.block(c, 1), BAD_ARG);
            due("block(" + c + ", 0)", x.block(c, 0), BAD_ARG);
            due("rank() after it", x.rank(), 5);
            due("families() after it", x.families(), 126);
        }
    }

    private static void weight() {
        promise = "promise 4";
        PathFamilies x = new PathFamilies();
        x.load(0);
        for (int c = 0; c < 30; c++) {
            due("weight(" + c + ", 2)", x.weight(c, 2), 0);
        }
        due("rank() after weight", x.rank(), 0);
        due("loadedWeight()", x.loadedWeight(), 1024);
        due("sum()", x.sum(), 126 * 1024);
        due("weight(0, 3)", x.weight(0, 3), 0);
        due("weight(29, -5)", x.weight(29, -5), 0);
        due("loadedWeight()", x.loadedWeight(), -15 * 256);
        for (int c : NOT_CELLS) {
            due("weight(" + c + ", 7)", x.weight(c, 7), BAD_ARG);
            due("sum() after it", x.sum(), 126 * -15 * 256);
            due("rank() after it", x.rank(), 0);
        }
        x.block(0, 1);
        due("weight(0, 1) of a blocked cell", x.weight(0, 1), 0);
        x.block(0, 0);
        due("sum()", x.sum(), 126 * -5 * 256);
    }

    private static void paths() {
        promise = "promise 5";
        PathFamilies x = new PathFamilies();
        x.ends(15, 30);
        int[] byDowns = {1, 6, 21, 56, 126};
        for (int i = 0; i < 4; i++) {
            for (int j = 0; j < 4; j++) {
                int downs = j + 1 - i;
                due("paths(" + i + ", " + j + ")", x.paths(i, j), downs < 0 ? 0 : byDowns[downs]);
            }
        }
        int[] notEnds = {-1, 4, 5, Integer.MAX_VALUE, Integer.MIN_VALUE};
        for (int e : notEnds) {
            due("paths(" + e + ", 0)", x.paths(e, 0), BAD_ARG);
            due("paths(0, " + e + ")", x.paths(0, e), BAD_ARG);
            due("paths(" + e + ", " + e + ")", x.paths(e, e), BAD_ARG);
        }
        x.weight(0, 0);
        due("paths(0, 3) with a weight of 0", x.paths(0, 3), 126);
        x.block(1, 1);
        due("paths(1, 1) from a blocked start", x.paths(1, 1), 0);
        due("paths(0, 3) past a blocked cell", x.paths(0, 3), 70);
    }

    private static void families() {
        promise = "promise 6";
        PathFamilies x = new PathFamilies();
        x.ends(3, 24);
        due("families(), the most there are", x.families(), 490);
        x.ends(7, 28);
        due("families() of three paths", x.families(), 175);
        x.ends(15, 30);
        due("families() of four paths", x.families(), 15);
        x.weight(0, 0);
        due("families() with a weight of 0", x.families(), 15);
        x.ends(5, 3);
        due("families() with a goal above its start", x.families(), 0);
    }

    private static void sum() {
        promise = "promise 7";
        PathFamilies x = new PathFamilies();
        x.weight(0, 1 << 30);
        due("sum() that wraps", x.sum(), 126 * (1 << 30));
        x.weight(0, 65536);
        x.weight(29, 65536);
        due("sum() of products that wrap", x.sum(), 0);
        x.weight(29, 65537);
        due("sum() of products that wrap", x.sum(), 126 * 65536);
        x.weight(0, 0);
        due("sum() with a weight of 0", x.sum(), 0);
        x.ends(2, 1);
        due("sum() of no family", x.sum(), 0);
        PathFamilies y = new PathFamilies();
        y.ends(3, 3);
        y.weight(5, 3);
        y.weight(11, -7);
        y.weight(2, 1000);
        due("sum() of one family of two paths", y.sum(), -21);
    }

    private static void through() {
        promise = "promise 8";
        PathFamilies x = new PathFamilies();
        for (int c : NOT_CELLS) {
            due("through(" + c + ")", x.through(c), BAD_ARG);
        }
        due("through(4)", x.through(4), 1);
        due("through(25)", x.through(25), 1);
        due("through(1)", x.through(1), 56);
        due("through(5)", x.through(5), 70);
        x.ends(3, 3);
        due("through(10), on path 0", x.through(10), 1);
        due("through(11), on path 1", x.through(11), 1);
        due("through(12), on neither", x.through(12), 0);
        x.ends(2, 1);
        due("through(1) without a family", x.through(1), 0);
    }

    private static void throughBoth() {
        promise = "promise 9";
        PathFamilies x = new PathFamilies();
        for (int c : NOT_CELLS) {
            due("throughBoth(" + c + ", 0)", x.throughBoth(c, 0), BAD_ARG);
            due("throughBoth(0, " + c + ")", x.throughBoth(0, c), BAD_ARG);
            due("throughBoth(" + c + ", " + c + ")", x.throughBoth(c, c), BAD_ARG);
        }
        due("throughBoth(1, 1), one cell twice", x.throughBoth(1, 1), 56);
        due("throughBoth(17, 6)", x.throughBoth(17, 6), 36);
        due("throughBoth(6, 17)", x.throughBoth(6, 17), 36);
        due("throughBoth(1, 5), never on one path", x.throughBoth(1, 5), 0);
        x.ends(3, 3);
        due("throughBoth(10, 11), on two paths", x.throughBoth(10, 11), 1);
        due("throughBoth(10, 15), on one path", x.throughBoth(10, 15), 1);
        due("throughBoth(10, 12), one on none", x.throughBoth(10, 12), 0);
        due("throughBoth(12, 10), one on none", x.throughBoth(12, 10), 0);
    }

    private static void musts() {
        promise = "promise 10";
        PathFamilies x = new PathFamilies();
        due("musts()", x.musts(), 2);
        x.block(5, 1);
        due("musts() with one way out of the start", x.musts(), 3);
        x.ends(1, 1);
        due("musts() without a family", x.musts(), 0);
        x.block(5, 0);
        due("musts() of one family", x.musts(), 6);
        x.ends(15, 15);
        due("musts() of one family of four paths", x.musts(), 24);
        x.ends(30, 15);
        due("musts() without a family", x.musts(), 0);
    }

    private static void load() {
        promise = "promise 11";
        PathFamilies x = new PathFamilies();
        int[] none = {126, 127, -1, Integer.MAX_VALUE, Integer.MIN_VALUE};
        for (int n : none) {
            due("load(" + n + ") at first", x.load(n), NONE);
            due("rank() after it", x.rank(), NONE);
        }
        due("load(125)", x.load(125), 0);
        for (int n : none) {
            due("load(" + n + ")", x.load(n), NONE);
            due("rank() after it", x.rank(), 125);
            due("cell(0, 4) after it", x.cell(0, 4), 4);
        }
        due("load(0)", x.load(0), 0);
        due("cell(0, 5)", x.cell(0, 5), 25);
        x.ends(3, 24);
        due("load(489)", x.load(489), 0);
        due("load(490)", x.load(490), NONE);
        x.ends(2, 1);
        due("load(0) without a family", x.load(0), NONE);
    }

    private static void cell() {
        promise = "promise 12";
        PathFamilies x = new PathFamilies();
        due("cell(0, 0) with no family loaded", x.cell(0, 0), NONE);
        x.load(1);
        int[] second = {0, 5, 10, 15, 20, 21, 26, 27, 28, 29};
        for (int k = 0; k < 10; k++) {
            due("cell(0, " + k + ")", x.cell(0, k), second[k]);
        }
        int[] notThere = {-1, 10, 11, 30, 31, Integer.MAX_VALUE, Integer.MIN_VALUE};
        for (int n : notThere) {
            due("cell(0, " + n + ")", x.cell(0, n), NONE);
            due("cell(" + n + ", 0)", x.cell(n, 0), NONE);
        }
        due("cell(1, 0)", x.cell(1, 0), NONE);
        x.ends(3, 12);
        due("cell(0, 0) after ends", x.cell(0, 0), NONE);
        x.load(0);
        int[][] first = {{0, 5, 10, 15, 20, 25, 26, 27}, {1, 6, 11, 16, 21, 22, 23, 28}};
        for (int i = 0; i < 2; i++) {
            for (int k = 0; k < 8; k++) {
                due("cell(" + i + ", " + k + ")", x.cell(i, k), first[i][k]);
            }
        }
        due("cell(1, 8)", x.cell(1, 8), NONE);
        due("cell(2, 0)", x.cell(2, 0), NONE);
        due("cell(-1, 7)", x.cell(-1, 7), NONE);
        x.load(1);
        due("cell(-1, 0) with another family before", x.cell(-1, 0), NONE);
    }

    private static void loadedWeight() {
        promise = "promise 13";
        PathFamilies x = new PathFamilies();
        due("loadedWeight() with none loaded", x.loadedWeight(), 0);
        x.load(0);
        due("loadedWeight()", x.loadedWeight(), 1);
        x.weight(10, -3);
        due("loadedWeight() after weight", x.loadedWeight(), -3);
        x.weight(25, Integer.MAX_VALUE);
        due("loadedWeight() that wraps", x.loadedWeight(), -3 * Integer.MAX_VALUE);
        x.weight(1, 100);
        due("loadedWeight(), cell 1 not on it", x.loadedWeight(), -3 * Integer.MAX_VALUE);
        x.load(125);
        due("loadedWeight() of the last", x.loadedWeight(), 100);
        x.weight(4, 0);
        due("loadedWeight() with a weight of 0", x.loadedWeight(), 0);
        PathFamilies y = new PathFamilies();
        y.weight(5, 3);
        y.weight(6, 5);
        y.ends(3, 3);
        y.load(0);
        due("loadedWeight() over two paths", y.loadedWeight(), 15);
    }

    private static void rank() {
        promise = "promise 14";
        PathFamilies x = new PathFamilies();
        due("rank() with none loaded", x.rank(), NONE);
        for (int n = 0; n < 126; n++) {
            x.load(n);
            due("rank()", x.rank(), n);
        }
        x.families();
        x.sum();
        x.musts();
        x.through(3);
        x.throughBoth(3, 4);
        x.paths(0, 0);
        due("rank() after questions", x.rank(), 125);
        x.block(0, 0);
        due("rank() after block", x.rank(), NONE);
        x.load(2);
        x.ends(1, 16);
        due("rank() after ends", x.rank(), NONE);
    }
}
