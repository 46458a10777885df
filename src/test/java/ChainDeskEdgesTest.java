import java.util.ArrayList;
import java.util.List;
import java.util.function.ToIntFunction;

/**
 * Each sentence of the document that names a boundary case has a test of its own here, under the sentence's words.
 * The answers are worked out by hand.
 */
public final class ChainDeskEdgesTest {
    private static final int CALLS_OF_AN_OBJECT = 512;

    // Some have low bits, or a remainder modulo 32, that would pass if only these were looked at.
    private static final int[] NO_DIMENSIONS = {
        -1, 5, 6, 7, 31, 32, 33, 36, 256, 65536, -4, -5, -28, -32, Integer.MIN_VALUE, Integer.MIN_VALUE + 4, Integer.MAX_VALUE};
    private static final int[] NO_SIMPLICES = {
        0, -1, 32, 33, 39, 63, 64, 257, 65543, -7, -31, -32, Integer.MIN_VALUE, Integer.MIN_VALUE + 7, Integer.MAX_VALUE};

    private static final int[] EMPTY = {};
    // A solid and a triangle that share a line.
    private static final int[] MIXED = {15, 25};
    private static final int[] FULL = {31};
    private static final int[][] COMPLEXES = {EMPTY, MIXED, FULL};
    private static final int[][] COUNTS = {{0, 0, 0, 0, 0}, {5, 8, 5, 1, 0}, {5, 10, 10, 5, 1}};

    private static final int[] ALL_LINES = {3, 5, 6, 9, 10, 12, 17, 18, 20, 24};
    private static final int[] ALL_TRIANGLES = {7, 11, 13, 14, 19, 21, 22, 25, 26, 28};
    private static final int[] ALL_SOLIDS = {15, 23, 27, 29, 30};
    private static final int[] STAR_OF_LINES = {3, 5, 9, 17};

    private static String sentence = "";
    private static int wrong = 0;

    private static void due(String call, Object got, Object want) {
        if (!got.equals(want)) {
            wrong++;
            System.out.println("\"" + sentence + "\": " + call + " answered " + got + ", due is " + want);
        }
    }

    private static ChainDesk holding(int... simplices) {
        ChainDesk desk = new ChainDesk();
        for (int simplex : simplices) {
            desk.add(simplex);
        }
        return desk;
    }

    private static void dueChainAnswers(ChainDesk desk, int k, int chain, int boundary, int filled, int filling, int least) {
        String arguments = "(" + k + ", " + chain + ")";
        due("boundary" + arguments, desk.boundary(k, chain), boundary);
        due("filled" + arguments, desk.filled(k, chain), filled);
        due("filling" + arguments, desk.filling(k, chain), filling);
        due("least" + arguments, desk.least(k, chain), least);
    }

    /** What can be seen of an object, in fewer than 200 calls. */
    private static List<Integer> seen(ChainDesk desk) {
        List<Integer> answers = new ArrayList<>();
        for (int k = 0; k <= 4; k++) {
            int count = desk.count(k);
            answers.add(count);
            answers.add(desk.holes(k));
            for (int i = 0; i <= count; i++) {
                answers.add(desk.simplex(k, i));
                int chain = i < count ? 1 << i : (1 << count) - 1;
                answers.add(desk.boundary(k, chain));
                answers.add(desk.filled(k, chain));
                answers.add(desk.filling(k, chain));
                answers.add(desk.least(k, chain));
            }
        }
        answers.add(desk.alternating());
        return answers;
    }

    /** The call's answer is due, and afterwards the object is as one that never had the call. */
    private static void dueWithoutChange(String call, int[] complex, ToIntFunction<ChainDesk> made, int want) {
        ChainDesk desk = holding(complex);
        due(call, made.applyAsInt(desk), want);
        due("all that is seen after " + call, seen(desk), seen(holding(complex)));
    }

    private static void dueRefused(String call, int[] complex, ToIntFunction<ChainDesk> made) {
        dueWithoutChange(call, complex, made, -1);
    }

    // The first section, and the terms

    private static void theLastCallOfAnObject() {
        sentence = "An object is used for at most 512 calls after it has been made";
        ChainDesk desk = new ChainDesk();
        for (int call = 1; call <= CALLS_OF_AN_OBJECT; call += 4) {
            due("call " + call + ": add(31)", desk.add(31), call == 1 ? 31 : 0);
            due("call " + (call + 1) + ": remove(16)", desk.remove(16), 16);
            due("call " + (call + 2) + ": add(31)", desk.add(31), 16);
            due("call " + (call + 3) + ": filling(3, 31)", desk.filling(3, 31), 1);
        }
    }

    private static void theFirstAndTheLastPoint() {
        sentence = "POINTS are 0 to 4";
        ChainDesk desk = new ChainDesk();
        due("add(1), the point 0", desk.add(1), 1);
        due("add(16), the point 4", desk.add(16), 1);
        due("add(32), which would be a point 5", desk.add(32), -1);
        due("count(0)", desk.count(0), 2);
        due("simplex(0, 0)", desk.simplex(0, 0), 1);
        due("simplex(0, 1)", desk.simplex(0, 1), 16);
        due("add(17)", desk.add(17), 1);
        due("boundary(1, 1)", desk.boundary(1, 1), 3);
    }

    private static void theLeastAndTheGreatestSimplex() {
        sentence = "A SIMPLEX is a set of points that is not empty, written as .. (1 to 31)";
        due("add(1)", new ChainDesk().add(1), 1);
        due("add(31)", new ChainDesk().add(31), 31);
        due("remove(1)", holding(31).remove(1), 16);
        due("remove(31)", holding(31).remove(31), 1);
        for (int simplex = 1; simplex <= 31; simplex++) {
            ChainDesk desk = holding(simplex);
            int dimension = Integer.bitCount(simplex) - 1;
            due("after add(" + simplex + "): simplex(" + dimension + ", 0)", desk.simplex(dimension, 0), simplex);
        }
    }

    private static void aPointHasNoFace() {
        sentence = "A FACE of a simplex is a set of all its points but one (if that is not empty)";
        for (int point = 1; point <= 16; point *= 2) {
            ChainDesk desk = new ChainDesk();
            due("add(" + point + ")", desk.add(point), 1);
            due("count(0)", desk.count(0), 1);
            due("alternating()", desk.alternating(), 1);
            due("boundary(0, 1)", desk.boundary(0, 1), 0);
            due("holes(0)", desk.holes(0), 1);
            due("remove(" + point + ")", desk.remove(point), 1);
        }
    }

    private static void noneAtTheStart() {
        sentence = "At the start none is held";
        for (int k = 0; k <= 4; k++) {
            due("count(" + k + ")", new ChainDesk().count(k), 0);
            due("simplex(" + k + ", 0)", new ChainDesk().simplex(k, 0), -1);
        }
        for (int simplex = 1; simplex <= 31; simplex++) {
            due("remove(" + simplex + ")", new ChainDesk().remove(simplex), 0);
            due("add(" + simplex + ")", new ChainDesk().add(simplex), (1 << Integer.bitCount(simplex)) - 1);
        }
    }

    private static void numbersStartFrom0AndAscend() {
        sentence = "The held simplices of dimension k are numbered from 0 in ascending order of their numbers as sets";
        ChainDesk descending = holding(24, 20, 18, 17, 12, 10, 9, 6, 5, 3);
        for (int i = 0; i < 10; i++) {
            due("simplex(1, " + i + ")", descending.simplex(1, i), ALL_LINES[i]);
        }
        ChainDesk full = holding(31);
        int[] firsts = {1, 3, 7, 15, 31};
        int[] lasts = {16, 24, 28, 30, 31};
        for (int k = 0; k <= 4; k++) {
            due("simplex(" + k + ", 0)", full.simplex(k, 0), firsts[k]);
            due("the last simplex of dimension " + k, full.simplex(k, COUNTS[2][k] - 1), lasts[k]);
        }
    }

    private static void aChainChangesItsMeaning() {
        sentence = "so it changes its meaning when simplices come or go";
        ChainDesk desk = holding(24);
        due("boundary(1, 1) of the line 24", desk.boundary(1, 1), 3);
        desk.add(1);
        due("boundary(1, 1) once the point 0 has come", desk.boundary(1, 1), 6);
        desk.add(5);
        due("boundary(1, 1) once the line 5 has come", desk.boundary(1, 1), 3);
        due("boundary(1, 2), now the line 24", desk.boundary(1, 2), 12);
        due("filling(0, 12)", desk.filling(0, 12), 2);
        desk.remove(1);
        due("boundary(1, 1) once the point 0 has gone", desk.boundary(1, 1), 6);
        due("boundary(1, 2) once it is no chain", desk.boundary(1, 2), -1);
        due("filling(0, 6)", desk.filling(0, 6), 1);
        due("filling(0, 12) once it is no chain", desk.filling(0, 12), -1);
    }

    private static void chainsFromDimension0To4() {
        sentence = "There are chains of dimension k for k from 0 to 4";
        for (int k = 0; k <= 4; k++) {
            int greatest = (1 << COUNTS[2][k]) - 1;
            due("boundary(" + k + ", " + greatest + ") >= 0", holding(31).boundary(k, greatest) >= 0, true);
            due("filled(" + k + ", " + greatest + ") >= 0", holding(31).filled(k, greatest) >= 0, true);
            due("filling(" + k + ", " + greatest + ") != -1", holding(31).filling(k, greatest) != -1, true);
            due("least(" + k + ", " + greatest + ") >= 0", holding(31).least(k, greatest) >= 0, true);
        }
    }

    private static void onlyTheEmptyChain() {
        sentence = "for some k only the empty one, 0";
        for (int k = 0; k <= 4; k++) {
            dueChainAnswers(new ChainDesk(), k, 0, 0, 1, 0, 0);
            dueChainAnswers(new ChainDesk(), k, 1, -1, -1, -1, -1);
        }
        for (int k = 2; k <= 4; k++) {
            dueChainAnswers(holding(ALL_LINES), k, 0, 0, 1, 0, 0);
            dueChainAnswers(holding(ALL_LINES), k, 1, -1, -1, -1, -1);
        }
        dueChainAnswers(holding(ALL_SOLIDS), 4, 0, 0, 1, 0, 0);
        dueChainAnswers(holding(ALL_SOLIDS), 4, 1, -1, -1, -1, -1);
    }

    private static void anOddNumberOfFaces() {
        sentence = "those simplices that are faces of an odd number of the chain's simplices";
        ChainDesk star = holding(STAR_OF_LINES);
        due("no line: boundary(1, 0)", star.boundary(1, 0), 0);
        due("one line: boundary(1, 1)", star.boundary(1, 1), 3);
        due("two lines at a point: boundary(1, 3)", star.boundary(1, 3), 6);
        due("three lines at a point: boundary(1, 7)", star.boundary(1, 7), 15);
        due("four lines at a point: boundary(1, 15)", star.boundary(1, 15), 30);
        ChainDesk book = holding(7, 11, 19);
        due("one triangle: boundary(2, 1)", book.boundary(2, 1), 7);
        due("two triangles at a line: boundary(2, 3)", book.boundary(2, 3), 30);
        due("three triangles at a line: boundary(2, 7)", book.boundary(2, 7), 127);
        ChainDesk hull = holding(ALL_SOLIDS);
        due("two solids at a triangle: boundary(3, 31)", hull.boundary(3, 31), 0);
        due("the greatest simplex: boundary(4, 1)", holding(31).boundary(4, 1), 31);
    }

    private static void theBoundaryInDimension0() {
        sentence = "the boundary of a chain of dimension 0 is 0";
        ChainDesk points = holding(1, 2, 4, 8, 16);
        ChainDesk full = holding(31);
        for (int chain = 0; chain < 32; chain++) {
            due("five points: boundary(0, " + chain + ")", points.boundary(0, chain), 0);
            due("all: boundary(0, " + chain + ")", full.boundary(0, chain), 0);
        }
    }

    private static void everyChainOfDimension0IsACycle() {
        sentence = "A chain is a CYCLE if its boundary is 0";
        ChainDesk desk = new ChainDesk();
        due("no points: holes(0)", desk.holes(0), 0);
        for (int points = 1; points <= 5; points++) {
            desk.add(1 << points - 1);
            due(points + " points: holes(0)", desk.holes(0), points);
        }
    }

    private static void filledInDimension4() {
        sentence = "FILLED .. (for k = 4: if it is 0)";
        due("nothing held: filled(4, 0)", new ChainDesk().filled(4, 0), 1);
        due("all but one held: filled(4, 0)", holding(ALL_SOLIDS).filled(4, 0), 1);
        due("all held: filled(4, 0)", holding(31).filled(4, 0), 1);
        due("all held: filled(4, 1)", holding(31).filled(4, 1), 0);
        due("all held: least(4, 1)", holding(31).least(4, 1), 1);
        due("all held: least(4, 0)", holding(31).least(4, 0), 0);
    }

    private static void refusedDimensions() {
        sentence = "A call with k not from 0 to 4 is refused: it answers -1 and changes nothing";
        for (int[] complex : COMPLEXES) {
            for (int k : NO_DIMENSIONS) {
                dueRefused("count(" + k + ")", complex, desk -> desk.count(k));
                dueRefused("holes(" + k + ")", complex, desk -> desk.holes(k));
                for (int second : new int[] {0, 1, -1, Integer.MAX_VALUE}) {
                    String arguments = "(" + k + ", " + second + ")";
                    dueRefused("simplex" + arguments, complex, desk -> desk.simplex(k, second));
                    dueRefused("boundary" + arguments, complex, desk -> desk.boundary(k, second));
                    dueRefused("filled" + arguments, complex, desk -> desk.filled(k, second));
                    dueRefused("filling" + arguments, complex, desk -> desk.filling(k, second));
                    dueRefused("least" + arguments, complex, desk -> desk.least(k, second));
                }
            }
        }
    }

    private static void dimensionsNotRefused() {
        sentence = "A call with k not from 0 to 4 is refused (and no other k)";
        for (int k = 0; k <= 4; k++) {
            due("count(" + k + ")", holding(31).count(k), COUNTS[2][k]);
            due("holes(" + k + ")", holding(31).holes(k), k == 0 ? 1 : 0);
            due("simplex(" + k + ", 0)", holding(31).simplex(k, 0), (2 << k) - 1);
            dueChainAnswers(holding(31), k, 0, 0, 1, 0, 0);
        }
    }

    private static void refusedChains() {
        sentence = "A call with a number that is not a chain of dimension k is refused: it answers -1 and changes nothing";
        for (int n = 0; n < COMPLEXES.length; n++) {
            int[] complex = COMPLEXES[n];
            for (int k = 0; k <= 4; k++) {
                int dimension = k;
                int chains = 1 << COUNTS[n][k];
                int[] noChains = {
                    chains, chains + 1, 2 * chains, 2 * chains - 1, 1024, 2048, 65536, 1 << 30, Integer.MAX_VALUE,
                    -1, -2, -chains, Integer.MIN_VALUE, Integer.MIN_VALUE + 1};
                for (int chain : noChains) {
                    String arguments = "(" + k + ", " + chain + ")";
                    dueRefused("boundary" + arguments, complex, desk -> desk.boundary(dimension, chain));
                    dueRefused("filled" + arguments, complex, desk -> desk.filled(dimension, chain));
                    dueRefused("filling" + arguments, complex, desk -> desk.filling(dimension, chain));
                    dueRefused("least" + arguments, complex, desk -> desk.least(dimension, chain));
                }
            }
        }
    }

    private static void theGreatestChainIsNotRefused() {
        sentence = "A call with a number that is not a chain of dimension k is refused (and no other number)";
        dueChainAnswers(holding(1, 2, 4, 8, 16), 0, 31, 0, 0, -2, 31);
        // Each point is on four lines, so the chain of all lines is a cycle.
        dueChainAnswers(holding(ALL_LINES), 1, 1023, 0, 0, -2, 1023);
        // Each line is on three triangles.
        dueChainAnswers(holding(ALL_TRIANGLES), 2, 1023, 1023, 0, -2, 1023);
        dueChainAnswers(holding(ALL_SOLIDS), 3, 31, 0, 0, -2, 31);
        dueChainAnswers(holding(31), 3, 31, 0, 1, 1, 0);
        dueChainAnswers(holding(31), 4, 1, 31, 0, -2, 1);
    }

    // Promises 2 to 5

    private static void addRefused() {
        sentence = "add: -1 if simplex is not from 1 to 31";
        for (int[] complex : COMPLEXES) {
            for (int simplex : NO_SIMPLICES) {
                dueRefused("add(" + simplex + ")", complex, desk -> desk.add(simplex));
            }
        }
    }

    private static void addWithNoneNew() {
        sentence = "add: Answers how many simplices are held that were not before";
        for (int simplex = 1; simplex <= 31; simplex++) {
            int each = simplex;
            dueWithoutChange("all held: add(" + simplex + ")", FULL, desk -> desk.add(each), 0);
        }
        due("none held: add(31)", new ChainDesk().add(31), 31);
        due("all but the greatest held: add(31)", holding(ALL_SOLIDS).add(31), 1);
    }

    private static void addReachesTheFacesOfFaces() {
        sentence = "add: Holds the simplex, its faces, their faces, and so on";
        ChainDesk desk = holding(31);
        for (int k = 0; k <= 4; k++) {
            due("count(" + k + ")", desk.count(k), COUNTS[2][k]);
        }
    }

    private static void removeRefused() {
        sentence = "remove: -1 if simplex is not from 1 to 31";
        for (int[] complex : COMPLEXES) {
            for (int simplex : NO_SIMPLICES) {
                dueRefused("remove(" + simplex + ")", complex, desk -> desk.remove(simplex));
            }
        }
    }

    private static void removeOfWhatIsNotHeld() {
        sentence = "remove: 0 if it is not held";
        for (int simplex = 1; simplex <= 31; simplex++) {
            int each = simplex;
            dueWithoutChange("none held: remove(" + simplex + ")", EMPTY, desk -> desk.remove(each), 0);
        }
        for (int simplex : new int[] {18, 20, 19, 26, 28, 23, 30, 31}) {
            dueWithoutChange("remove(" + simplex + ")", MIXED, desk -> desk.remove(simplex), 0);
        }
        ChainDesk desk = holding(31);
        due("remove(31)", desk.remove(31), 1);
        due("remove(31) again", desk.remove(31), 0);
    }

    private static void removeToTheEnd() {
        sentence = "remove: Takes the simplex away, and all held simplices that have all its points";
        ChainDesk desk = holding(31);
        int[] gone = {16, 8, 4, 2, 1};
        for (int x = 0; x < 5; x++) {
            due("remove(" + (1 << x) + ")", desk.remove(1 << x), gone[x]);
        }
        due("all that is seen after the last point", seen(desk), seen(new ChainDesk()));
        due("remove(31), which no other has all points of", holding(31).remove(31), 1);
    }

    private static void countOfNoneAndOfAll() {
        sentence = "count: How many simplices of dimension k are held";
        for (int n = 0; n < COMPLEXES.length; n++) {
            for (int k = 0; k <= 4; k++) {
                due("complex " + n + ": count(" + k + ")", holding(COMPLEXES[n]).count(k), COUNTS[n][k]);
            }
        }
    }

    private static void noSimplexWithTheNumber() {
        sentence = "simplex: -1 also if there is none";
        for (int n = 0; n < COMPLEXES.length; n++) {
            int[] complex = COMPLEXES[n];
            for (int k = 0; k <= 4; k++) {
                int dimension = k;
                int count = COUNTS[n][k];
                for (int i : new int[] {count, count + 1, 10, 31, 32, -1, -2, Integer.MIN_VALUE, Integer.MAX_VALUE}) {
                    dueRefused("simplex(" + k + ", " + i + ")", complex, desk -> desk.simplex(dimension, i));
                }
                due("simplex(" + k + ", count - 1) >= 1", count == 0 || holding(complex).simplex(k, count - 1) >= 1, true);
            }
        }
    }

    // Promises 6 to 11

    private static void boundaryOfTheEmptyChain() {
        sentence = "boundary: The boundary of the chain of dimension k (of an empty chain: no simplex is a face of any)";
        for (int[] complex : COMPLEXES) {
            for (int k = 0; k <= 4; k++) {
                due("boundary(" + k + ", 0)", holding(complex).boundary(k, 0), 0);
            }
        }
    }

    private static void theFewestAndTheMostHoles() {
        sentence = "holes: The number b such that there are 2^b times as many cycles as filled chains (there is such a b)";
        for (int k = 0; k <= 4; k++) {
            due("none held: holes(" + k + ")", new ChainDesk().holes(k), 0);
            due("all held: holes(" + k + ")", holding(31).holes(k), k == 0 ? 1 : 0);
        }
        due("five points: holes(0)", holding(1, 2, 4, 8, 16).holes(0), 5);
        due("all lines: holes(1)", holding(ALL_LINES).holes(1), 6);
        due("all triangles: holes(2)", holding(ALL_TRIANGLES).holes(2), 4);
        due("all solids: holes(3)", holding(ALL_SOLIDS).holes(3), 1);
        due("all solids: holes(4)", holding(ALL_SOLIDS).holes(4), 0);
    }

    private static void filledOrElse0() {
        sentence = "filled: 1 if the chain of dimension k is filled, else 0";
        for (int[] complex : COMPLEXES) {
            for (int k = 0; k <= 4; k++) {
                due("the empty chain: filled(" + k + ", 0)", holding(complex).filled(k, 0), 1);
            }
        }
        due("a cycle with nothing in it: filled(1, 7)", holding(3, 5, 6).filled(1, 7), 0);
        due("the same with its triangle: filled(1, 7)", holding(7).filled(1, 7), 1);
        due("no cycle: filled(1, 3)", holding(7).filled(1, 3), 0);
        due("a point alone: filled(0, 1)", holding(1).filled(0, 1), 0);
    }

    private static void noFilling() {
        sentence = "filling: -2 if there is none";
        due("a point: filling(0, 1)", holding(31).filling(0, 1), -2);
        due("a line: filling(1, 1)", holding(31).filling(1, 1), -2);
        due("a triangle: filling(2, 1)", holding(31).filling(2, 1), -2);
        due("a solid: filling(3, 1)", holding(31).filling(3, 1), -2);
        due("a round with nothing in it: filling(1, 7)", holding(3, 5, 6).filling(1, 7), -2);
        due("a hull with nothing in it: filling(2, 15)", holding(7, 11, 13, 14).filling(2, 15), -2);
        due("a hull with nothing in it: filling(3, 31)", holding(ALL_SOLIDS).filling(3, 31), -2);
        dueWithoutChange("filling(1, 1)", MIXED, desk -> desk.filling(1, 1), -2);
    }

    private static void noFillingInDimension4() {
        sentence = "filling: -2 if k = 4 and the chain is not 0";
        dueWithoutChange("filling(4, 1)", FULL, desk -> desk.filling(4, 1), -2);
        due("filling(4, 1), where 1 is no chain", holding(ALL_SOLIDS).filling(4, 1), -1);
        due("filling(4, 2), where 2 is no chain", holding(31).filling(4, 2), -1);
    }

    private static void theEmptyFillingInDimension4() {
        sentence = "filling: 0 if k = 4 and it is 0";
        for (int[] complex : COMPLEXES) {
            due("filling(4, 0)", holding(complex).filling(4, 0), 0);
        }
    }

    private static void theLeastOfSeveralFillings() {
        sentence = "filling: The least chain of dimension k + 1 whose boundary is the chain of dimension k";
        for (int k = 0; k <= 3; k++) {
            due("all held: filling(" + k + ", 0)", holding(31).filling(k, 0), 0);
        }
        due("the only one is the greatest chain: filling(0, 30)", holding(STAR_OF_LINES).filling(0, 30), 15);
        due("the first solid or the four others: filling(2, 15)", holding(31).filling(2, 15), 1);
        // The hull of the last solid: the triangles 14, 22, 26 and 28, with the numbers 3, 6, 8 and 9.
        due("the four others or the last solid: filling(2, 840)", holding(31).filling(2, 840), 15);
        due("the last solid, as the first is not held: filling(2, 840)", holding(23, 27, 29, 30).filling(2, 840), 8);
    }

    private static void theLeastThatDiffersByAFilledChain() {
        sentence = "least: The least chain of dimension k that differs from the chain by a filled chain";
        for (int[] complex : COMPLEXES) {
            for (int k = 0; k <= 4; k++) {
                due("least(" + k + ", 0)", holding(complex).least(k, 0), 0);
            }
        }
        due("nothing but 0 is filled: least(0, 31)", holding(1, 2, 4, 8, 16).least(0, 31), 31);
        due("all points joined: least(0, 16)", holding(31).least(0, 16), 1);
        due("all points joined: least(0, 30)", holding(31).least(0, 30), 0);
        due("itself filled: least(1, 7)", holding(7).least(1, 7), 0);
        due("the least already: least(1, 3)", holding(7).least(1, 3), 3);
    }

    private static void alternatingAtItsEnds() {
        sentence = "alternating: The number of simplices of even dimension less the number of those of odd dimension";
        due("none held", new ChainDesk().alternating(), 0);
        due("all held", holding(31).alternating(), 1);
        due("the least of all: every line", holding(ALL_LINES).alternating(), -5);
        due("the greatest of all: every triangle", holding(ALL_TRIANGLES).alternating(), 5);
        due("-1, though not refused: five points and six lines", holding(3, 5, 6, 9, 10, 12, 16).alternating(), -1);
        due("every solid", holding(ALL_SOLIDS).alternating(), 0);
    }

    private static void terms() {
        theLastCallOfAnObject();
        theFirstAndTheLastPoint();
        theLeastAndTheGreatestSimplex();
        aPointHasNoFace();
        noneAtTheStart();
        numbersStartFrom0AndAscend();
        aChainChangesItsMeaning();
        chainsFromDimension0To4();
        onlyTheEmptyChain();
        anOddNumberOfFaces();
        theBoundaryInDimension0();
        everyChainOfDimension0IsACycle();
        filledInDimension4();
        refusedDimensions();
        dimensionsNotRefused();
        refusedChains();
        theGreatestChainIsNotRefused();
    }

    private static void promises() {
        addRefused();
        addWithNoneNew();
        addReachesTheFacesOfFaces();
        removeRefused();
        removeOfWhatIsNotHeld();
        removeToTheEnd();
        countOfNoneAndOfAll();
        noSimplexWithTheNumber();
        boundaryOfTheEmptyChain();
        theFewestAndTheMostHoles();
        filledOrElse0();
        noFilling();
        noFillingInDimension4();
        theEmptyFillingInDimension4();
        theLeastOfSeveralFillings();
        theLeastThatDiffersByAFilledChain();
        alternatingAtItsEnds();
    }

    public static void main(String[] args) {
        terms();
        promises();
        System.out.println(wrong == 0 ? "all answers are as due" : wrong + " answers are not as due");
        if (wrong != 0) {
            System.exit(1);
        }
    }
}
