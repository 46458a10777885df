/** For each promise: ordinary inputs, the edges that the document names, and wrong inputs, worked out by hand. */
public final class ChainDeskPromisesTest {
    private static final int[] WRONG_DIMENSIONS = {-1, 5, 6, 31, 32, -32, Integer.MIN_VALUE, Integer.MAX_VALUE};
    private static final int[] WRONG_SIMPLICES = {0, -1, 32, 33, 63, -32, Integer.MIN_VALUE, Integer.MAX_VALUE};

    private static int wrong = 0;

    private static void due(String call, int got, int want) {
        if (got != want) {
            wrong++;
            System.out.println(call + " answered " + got + ", due is " + want);
        }
    }

    private static ChainDesk holding(int... simplices) {
        ChainDesk desk = new ChainDesk();
        for (int simplex : simplices) {
            desk.add(simplex);
        }
        return desk;
    }

    private static void dueCounts(String when, ChainDesk desk, int... counts) {
        for (int k = 0; k <= 4; k++) {
            due(when + ": count(" + k + ")", desk.count(k), counts[k]);
        }
    }

    private static void newObject() {
        ChainDesk desk = new ChainDesk();
        dueCounts("new object", desk, 0, 0, 0, 0, 0);
        for (int k = 0; k <= 4; k++) {
            due("new object: simplex(" + k + ", 0)", desk.simplex(k, 0), -1);
            due("new object: holes(" + k + ")", desk.holes(k), 0);
            due("new object: boundary(" + k + ", 0)", desk.boundary(k, 0), 0);
            due("new object: filled(" + k + ", 0)", desk.filled(k, 0), 1);
            due("new object: filling(" + k + ", 0)", desk.filling(k, 0), 0);
            due("new object: least(" + k + ", 0)", desk.least(k, 0), 0);
        }
        due("new object: alternating()", desk.alternating(), 0);
        ChainDesk other = holding(31);
        due("beside a full object: count(0)", desk.count(0), 0);
        due("a full object: count(0)", other.count(0), 5);
    }

    private static void add() {
        ChainDesk desk = new ChainDesk();
        due("add: a point", desk.add(16), 1);
        due("add: a point again", desk.add(16), 0);
        due("add: a line at a held point", desk.add(17), 2);
        due("add: a solid beside it", desk.add(15), 14);
        dueCounts("add: after them", desk, 5, 7, 4, 1, 0);
        due("add: a held face", desk.add(6), 0);
        due("add: the rest", desk.add(31), 14);
        dueCounts("add: all", desk, 5, 10, 10, 5, 1);
        due("add: all on a new object", new ChainDesk().add(31), 31);
        ChainDesk kept = holding(7);
        for (int simplex : WRONG_SIMPLICES) {
            due("add(" + simplex + ")", kept.add(simplex), -1);
        }
        dueCounts("add: after wrong ones", kept, 3, 3, 1, 0, 0);
    }

    private static void remove() {
        ChainDesk desk = holding(31);
        due("remove: the greatest alone", desk.remove(31), 1);
        due("remove: what is gone", desk.remove(31), 0);
        due("remove: a triangle and the two solids on it", desk.remove(7), 3);
        dueCounts("remove: after them", desk, 5, 10, 9, 3, 0);
        due("remove: a point", desk.remove(1), 12);
        dueCounts("remove: after the point", desk, 4, 6, 4, 1, 0);
        due("remove: a line of that point", desk.remove(3), 0);
        due("remove: a point of all", holding(31).remove(16), 16);
        due("remove: on a new object", new ChainDesk().remove(5), 0);
        ChainDesk kept = holding(7);
        for (int simplex : WRONG_SIMPLICES) {
            due("remove(" + simplex + ")", kept.remove(simplex), -1);
        }
        dueCounts("remove: after wrong ones", kept, 3, 3, 1, 0, 0);
    }

    private static void count() {
        dueCounts("count: two triangles at a point", holding(7, 28), 5, 6, 2, 0, 0);
        dueCounts("count: a solid", holding(30), 4, 6, 4, 1, 0);
        for (int k : WRONG_DIMENSIONS) {
            due("count(" + k + ")", holding(31).count(k), -1);
        }
    }

    private static void simplex() {
        ChainDesk desk = holding(31);
        int[] lines = {3, 5, 6, 9, 10, 12, 17, 18, 20, 24};
        int[] triangles = {7, 11, 13, 14, 19, 21, 22, 25, 26, 28};
        int[] solids = {15, 23, 27, 29, 30};
        for (int i = 0; i < 10; i++) {
            due("simplex(1, " + i + ")", desk.simplex(1, i), lines[i]);
            due("simplex(2, " + i + ")", desk.simplex(2, i), triangles[i]);
        }
        for (int i = 0; i < 5; i++) {
            due("simplex(0, " + i + ")", desk.simplex(0, i), 1 << i);
            due("simplex(3, " + i + ")", desk.simplex(3, i), solids[i]);
        }
        due("simplex(4, 0)", desk.simplex(4, 0), 31);
        int[] counts = {5, 10, 10, 5, 1};
        for (int k = 0; k <= 4; k++) {
            for (int i : new int[] {counts[k], counts[k] + 1, -1, 32, Integer.MIN_VALUE, Integer.MAX_VALUE}) {
                due("simplex(" + k + ", " + i + ")", desk.simplex(k, i), -1);
            }
        }
        for (int k : WRONG_DIMENSIONS) {
            due("simplex(" + k + ", 0)", desk.simplex(k, 0), -1);
        }
        desk.remove(2);
        due("simplex: numbers close up after a remove", desk.simplex(1, 0), 5);
        due("simplex: numbers close up after a remove", desk.simplex(0, 1), 4);
    }

    private static void boundary() {
        ChainDesk desk = holding(7, 28);
        // Lines 3 5 6 12 20 24 and triangles 7 28.
        due("boundary: a line", desk.boundary(1, 8), 12);
        due("boundary: two lines at a point", desk.boundary(1, 5), 5);
        due("boundary: a round", desk.boundary(1, 56), 0);
        due("boundary: a triangle", desk.boundary(2, 2), 56);
        due("boundary: both triangles", desk.boundary(2, 3), 63);
        due("boundary: all points", desk.boundary(0, 31), 0);
        due("boundary: no triangle", desk.boundary(2, 0), 0);
        due("boundary: no solid", desk.boundary(3, 0), 0);
        due("boundary: all", holding(31).boundary(4, 1), 31);
        due("boundary: a solid", holding(30).boundary(3, 1), 15);
        due("boundary: a line between the greatest points", holding(24).boundary(1, 1), 3);
    }

    private static void holes() {
        int[][] shapes = {
            {31}, {1, 2, 4, 8, 16}, {3, 6, 5}, {7, 11, 13, 14}, {15, 23, 27, 29, 30}, {3, 6, 12, 24, 17, 5, 9},
            {7, 24}, {11, 14, 13, 22, 21, 19, 7}, {31, 1}};
        int[][] dues = {
            {1, 0, 0, 0, 0}, {5, 0, 0, 0, 0}, {1, 1, 0, 0, 0}, {1, 0, 1, 0, 0}, {1, 0, 0, 1, 0}, {1, 3, 0, 0, 0},
            {2, 0, 0, 0, 0}, {1, 0, 2, 0, 0}, {1, 0, 0, 0, 0}};
        for (int n = 0; n < shapes.length; n++) {
            ChainDesk desk = holding(shapes[n]);
            for (int k = 0; k <= 4; k++) {
                due("holes: shape " + n + ": holes(" + k + ")", desk.holes(k), dues[n][k]);
            }
        }
        ChainDesk band = holding(7, 14, 28, 25, 19);
        due("holes: a band of five triangles: holes(0)", band.holes(0), 1);
        due("holes: a band of five triangles: holes(1)", band.holes(1), 1);
        due("holes: a band of five triangles: holes(2)", band.holes(2), 0);
        for (int k : WRONG_DIMENSIONS) {
            due("holes(" + k + ")", holding(31).holes(k), -1);
        }
    }

    private static void filled() {
        ChainDesk desk = holding(7, 24, 12);
        // Lines 3 5 6 12 24 and triangle 7.
        due("filled: the round of a triangle", desk.filled(1, 7), 1);
        due("filled: no line", desk.filled(1, 0), 1);
        due("filled: a line", desk.filled(1, 1), 0);
        due("filled: two joined points", desk.filled(0, 17), 1);
        due("filled: three points", desk.filled(0, 7), 0);
        due("filled: a triangle", desk.filled(2, 1), 0);
        due("filled: no triangle", desk.filled(2, 0), 1);
        due("filled: an empty round", holding(3, 5, 6).filled(1, 7), 0);
        due("filled: two points apart", holding(1, 16).filled(0, 3), 0);
        due("filled: dimension 4, 0", holding(31).filled(4, 0), 1);
        due("filled: dimension 4, 1", holding(31).filled(4, 1), 0);
    }

    private static void filling() {
        ChainDesk desk = holding(7, 14, 13, 11);
        // All lines and triangles of four points: each round is filled twice, by a part and by the others.
        due("filling: a round, the lesser of two", desk.filling(1, 7), 1);
        due("filling: the last triangle's round", desk.filling(1, 52), 7);
        due("filling: two triangles", desk.filling(1, 30), 3);
        due("filling: no line", desk.filling(1, 0), 0);
        due("filling: a line", desk.filling(1, 32), -2);
        due("filling: two points, by way of a lesser third", desk.filling(0, 12), 10);
        due("filling: a point", desk.filling(0, 8), -2);
        due("filling: the sphere, not filled", desk.filling(2, 15), -2);
        due("filling: the sphere, filled", holding(15).filling(2, 15), 1);
        due("filling: dimension 4, 0", holding(31).filling(4, 0), 0);
        due("filling: dimension 4, 1", holding(31).filling(4, 1), -2);
        due("filling: dimension 4, not a chain", holding(15).filling(4, 1), -1);
        due("filling: dimension 3", holding(31).filling(3, 31), 1);
        due("filling: dimension 3, a part", holding(31).filling(3, 1), -2);
    }

    private static void least() {
        ChainDesk desk = holding(7, 24);
        // Lines 3 5 6 24.
        due("least: a point", desk.least(0, 4), 1);
        due("least: a point of the other piece", desk.least(0, 16), 8);
        due("least: one of each piece", desk.least(0, 20), 9);
        due("least: two of a piece", desk.least(0, 6), 0);
        due("least: a round and a line", desk.least(1, 15), 8);
        due("least: a line of the triangle", desk.least(1, 4), 3);
        due("least: already so", desk.least(1, 3), 3);
        due("least: nothing", desk.least(1, 0), 0);
        due("least: not filled", desk.least(2, 1), 1);
        due("least: dimension 4", holding(31).least(4, 1), 1);
        due("least: dimension 3, all", holding(31).least(3, 31), 0);
        due("least: dimension 3, the last", holding(31).least(3, 16), 15);
    }

    private static void alternating() {
        due("alternating: all", holding(31).alternating(), 1);
        due("alternating: points", holding(1, 2, 4, 8, 16).alternating(), 5);
        due("alternating: all lines", holding(3, 5, 6, 9, 10, 12, 17, 18, 20, 24).alternating(), -5);
        due("alternating: the hull of four points", holding(7, 11, 13, 14).alternating(), 2);
        due("alternating: the hull of five points", holding(15, 23, 27, 29, 30).alternating(), 0);
        ChainDesk triangles = holding(31);
        triangles.remove(15);
        triangles.remove(23);
        triangles.remove(27);
        triangles.remove(29);
        triangles.remove(30);
        due("alternating: all triangles", triangles.alternating(), 5);
    }

    private static void dueRefused(ChainDesk desk, int k, int chain) {
        String arguments = "(" + k + ", " + chain + ")";
        due("boundary" + arguments, desk.boundary(k, chain), -1);
        due("filled" + arguments, desk.filled(k, chain), -1);
        due("filling" + arguments, desk.filling(k, chain), -1);
        due("least" + arguments, desk.least(k, chain), -1);
    }

    private static void refused() {
        int[] counts = {5, 8, 5, 1, 0};
        ChainDesk desk = holding(15, 25);
        for (int k = 0; k <= 4; k++) {
            int chains = 1 << counts[k];
            for (int chain : new int[] {chains, chains + 1, 2 * chains, -1, Integer.MIN_VALUE, Integer.MAX_VALUE}) {
                dueRefused(desk, k, chain);
            }
            due("the greatest chain: least >= 0", desk.least(k, chains - 1) >= 0 ? 1 : 0, 1);
        }
        for (int k : WRONG_DIMENSIONS) {
            dueRefused(desk, k, 0);
            dueRefused(desk, k, 1);
            dueRefused(desk, k, -1);
        }
        dueCounts("after refused calls", desk, counts);
        dueRefused(holding(31), 1, 1024);
        dueRefused(holding(31), 2, 1024);
        dueRefused(holding(31), 4, 2);
    }

    /** The example in README.md, call by call: an answer that changes here is to change there. */
    private static void readmeExample() {
        ChainDesk desk = new ChainDesk();
        due("README: add(7)", desk.add(7), 7);
        due("README: count(1)", desk.count(1), 3);
        due("README: simplex(1, 2)", desk.simplex(1, 2), 6);
        due("README: boundary(2, 1)", desk.boundary(2, 1), 7);
        due("README: filled(1, 7)", desk.filled(1, 7), 1);
        due("README: filling(1, 7)", desk.filling(1, 7), 1);
        due("README: least(1, 4)", desk.least(1, 4), 3);
        due("README: holes(1)", desk.holes(1), 0);
        due("README: remove(7)", desk.remove(7), 1);
        due("README: holes(1) without the triangle", desk.holes(1), 1);
        due("README: filled(1, 7) without the triangle", desk.filled(1, 7), 0);
        due("README: filling(1, 7) without the triangle", desk.filling(1, 7), -2);
        due("README: least(1, 4) without the triangle", desk.least(1, 4), 4);
        due("README: alternating()", desk.alternating(), 0);
        due("README: holes(5)", desk.holes(5), -1);
    }

    public static void main(String[] args) {
        newObject();
        add();
        remove();
        count();
        simplex();
        boundary();
        holes();
        filled();
        filling();
        least();
        alternating();
        refused();
        readmeExample();
        System.out.println(wrong == 0 ? "all answers are as due" : wrong + " answers are not as due");
        if (wrong != 0) {
            System.exit(1);
        }
    }
}
