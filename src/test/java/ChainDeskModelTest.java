import java.util.ArrayDeque;
import java.util.ArrayList;
import java.util.HashMap;
import java.util.HashSet;
import java.util.List;
import java.util.Map;
import java.util.Set;
import java.util.TreeSet;

/**
 * Compares ChainDesk with a model that is a word-by-word copy of the document's terms over sets of simplices:
 * on every complex that five points allow, and in long runs of mixed calls, wrong inputs among them.
 */
public final class ChainDeskModelTest {
    private static final int CALLS_OF_AN_OBJECT = 512;
    private static final int COMPLEXES = 7580;
    private static final int RUNS = 300;
    private static final int MOST_REPORTS = 40;

    private static int wrong = 0;
    private static long numbers = 1;

    private static void due(List<String> before, String call, int got, int want) {
        if (got == want) {
            return;
        }
        wrong++;
        if (wrong <= MOST_REPORTS) {
            System.out.println("after " + before + ": " + call + " answered " + got + ", due is " + want);
        }
    }

    /** Numbers in a fixed sequence, the same in every run. */
    private static int next(int end) {
        numbers = numbers * 6364136223846793005L + 1442695040888963407L;
        return (int) ((numbers >>> 33) % end);
    }

    private static final class Model {
        final TreeSet<Integer> held = new TreeSet<>();
        final Map<Integer, Map<Integer, Integer>> knownFillings = new HashMap<>();

        int add(int simplex) {
            if (simplex < 1 || simplex > 31) {
                return -1;
            }
            int before = held.size();
            ArrayDeque<Integer> open = new ArrayDeque<>(List.of(simplex));
            while (!open.isEmpty()) {
                int next = open.pop();
                held.add(next);
                open.addAll(faces(next));
            }
            knownFillings.clear();
            return held.size() - before;
        }

        int remove(int simplex) {
            if (simplex < 1 || simplex > 31) {
                return -1;
            }
            int before = held.size();
            held.removeIf(other -> (other | simplex) == other);
            knownFillings.clear();
            return before - held.size();
        }

        int count(int k) {
            return k < 0 || k > 4 ? -1 : ofDimension(k).size();
        }

        int simplex(int k, int i) {
            return k < 0 || k > 4 || i < 0 || i >= count(k) ? -1 : ofDimension(k).get(i);
        }

        int boundary(int k, int chain) {
            return isChain(k, chain) ? boundaryOf(k, chain) : -1;
        }

        int holes(int k) {
            if (k < 0 || k > 4) {
                return -1;
            }
            int cycles = 0;
            for (int chain = 0; chain < 1 << count(k); chain++) {
                if (boundaryOf(k, chain) == 0) {
                    cycles++;
                }
            }
            int b = 0;
            while (fillings(k).size() << b < cycles) {
                b++;
            }
            return b;
        }

        int filled(int k, int chain) {
            return !isChain(k, chain) ? -1 : fillings(k).containsKey(chain) ? 1 : 0;
        }

        int filling(int k, int chain) {
            return isChain(k, chain) ? fillings(k).getOrDefault(chain, -2) : -1;
        }

        int least(int k, int chain) {
            if (!isChain(k, chain)) {
                return -1;
            }
            int least = 0;
            while (!fillings(k).containsKey(least ^ chain)) {
                least++;
            }
            return least;
        }

        int alternating() {
            return held.stream().mapToInt(s -> Integer.bitCount(s) % 2 == 1 ? 1 : -1).sum();
        }

        private static List<Integer> faces(int simplex) {
            List<Integer> faces = new ArrayList<>();
            for (int point = 1; point <= 16; point *= 2) {
                if ((simplex & point) != 0 && simplex != point) {
                    faces.add(simplex - point);
                }
            }
            return faces;
        }

        private List<Integer> ofDimension(int k) {
            List<Integer> simplices = new ArrayList<>();
            for (int simplex : held) {
                if (Integer.bitCount(simplex) == k + 1) {
                    simplices.add(simplex);
                }
            }
            return simplices;
        }

        private boolean isChain(int k, int chain) {
            return k >= 0 && k <= 4 && chain >= 0 && chain < 1 << count(k);
        }

        private int boundaryOf(int k, int chain) {
            int[] timesAFace = new int[32];
            List<Integer> simplices = ofDimension(k);
            for (int i = 0; i < simplices.size(); i++) {
                if ((chain >> i & 1) == 1) {
                    for (int face : faces(simplices.get(i))) {
                        timesAFace[face]++;
                    }
                }
            }
            int boundary = 0;
            List<Integer> lower = ofDimension(k - 1);
            for (int i = 0; i < lower.size(); i++) {
                if (timesAFace[lower.get(i)] % 2 == 1) {
                    boundary += 1 << i;
                }
            }
            return boundary;
        }

        /** The filled chains of dimension k, each with its least filling. */
        private Map<Integer, Integer> fillings(int k) {
            if (k == 4) {
                return Map.of(0, 0);
            }
            if (!knownFillings.containsKey(k)) {
                Map<Integer, Integer> fillings = new HashMap<>();
                for (int chain = 0; chain < 1 << count(k + 1); chain++) {
                    fillings.putIfAbsent(boundaryOf(k + 1, chain), chain);
                }
                knownFillings.put(k, fillings);
            }
            return knownFillings.get(k);
        }
    }

    /** One object beside its model, with the calls that changed it. */
    private static final class Pair {
        final ChainDesk desk = new ChainDesk();
        final Model model = new Model();
        final List<String> changes = new ArrayList<>();
        int calls = 0;

        void add(int simplex) {
            due(changes, "add(" + simplex + ")", desk.add(simplex), model.add(simplex));
            changes.add("add(" + simplex + ")");
            calls++;
        }

        void remove(int simplex) {
            due(changes, "remove(" + simplex + ")", desk.remove(simplex), model.remove(simplex));
            changes.add("remove(" + simplex + ")");
            calls++;
        }

        void count(int k) {
            due(changes, "count(" + k + ")", desk.count(k), model.count(k));
            calls++;
        }

        void simplex(int k, int i) {
            due(changes, "simplex(" + k + ", " + i + ")", desk.simplex(k, i), model.simplex(k, i));
            calls++;
        }

        void holes(int k) {
            due(changes, "holes(" + k + ")", desk.holes(k), model.holes(k));
            calls++;
        }

        void alternating() {
            due(changes, "alternating()", desk.alternating(), model.alternating());
            calls++;
        }

        void chain(int k, int chain) {
            String arguments = "(" + k + ", " + chain + ")";
            due(changes, "boundary" + arguments, desk.boundary(k, chain), model.boundary(k, chain));
            due(changes, "filled" + arguments, desk.filled(k, chain), model.filled(k, chain));
            due(changes, "filling" + arguments, desk.filling(k, chain), model.filling(k, chain));
            due(changes, "least" + arguments, desk.least(k, chain), model.least(k, chain));
            calls += 4;
        }

        int someChain(int k) {
            int chains = 1 << Math.max(0, model.count(k));
            switch (next(8)) {
                case 0: return next(2) == 0 ? chains : -1 - next(chains);
                case 1: return chains - 1;
                case 2: return k >= 0 && k < 4 ? model.boundaryOf(k + 1, next(1 << model.count(k + 1))) : 0;
                default: return next(chains);
            }
        }

        void checkHeld() {
            for (int k = 0; k <= 4; k++) {
                count(k);
                for (int i = -1; i <= model.count(k); i++) {
                    simplex(k, i);
                }
            }
        }
    }

    /** Every complex, as the bits of its simplices: each is got from a smaller one by one simplex more. */
    private static Set<Integer> allComplexes() {
        Set<Integer> known = new HashSet<>(List.of(0));
        ArrayDeque<Integer> open = new ArrayDeque<>(known);
        while (!open.isEmpty()) {
            int complex = open.pop();
            for (int simplex = 1; simplex <= 31; simplex++) {
                int larger = complex | 1 << simplex;
                boolean closed = Model.faces(simplex).stream().allMatch(face -> (complex >> face & 1) == 1);
                if (closed && known.add(larger)) {
                    open.add(larger);
                }
            }
        }
        return known;
    }

    private static void checkComplex(int complex) {
        Pair pair = new Pair();
        for (int simplex = 31; simplex >= 1; simplex--) {
            if ((complex >> simplex & 1) == 1 && !pair.model.held.contains(simplex)) {
                pair.add(simplex);
            }
        }
        pair.checkHeld();
        pair.alternating();
        for (int k = 0; k <= 4; k++) {
            pair.holes(k);
            pair.chain(k, 0);
            for (int n = 0; n < 4; n++) {
                pair.chain(k, pair.someChain(k));
            }
        }
        pair.remove(1 + next(31));
        pair.checkHeld();
        pair.add(1 + next(31));
        pair.checkHeld();
        if (pair.calls > CALLS_OF_AN_OBJECT) {
            throw new IllegalStateException("the test makes more calls than an object is used for");
        }
    }

    private static void mixedCall(Pair pair) {
        int k = next(12) == 0 ? next(40) - 20 : next(5);
        switch (next(10)) {
            case 0: case 1: pair.add(next(12) == 0 ? next(200) - 100 : 1 + next(31)); break;
            case 2: case 3: pair.remove(next(12) == 0 ? next(200) - 100 : 1 + next(31)); break;
            case 4: pair.count(k); break;
            case 5: pair.simplex(k, next(13) - 1); break;
            case 6: pair.holes(k); break;
            case 7: pair.alternating(); break;
            default: pair.chain(k, pair.someChain(k)); break;
        }
    }

    public static void main(String[] args) {
        Set<Integer> complexes = allComplexes();
        if (complexes.size() != COMPLEXES) {
            throw new IllegalStateException("the test knows " + complexes.size() + " complexes");
        }
        for (int complex : complexes) {
            checkComplex(complex);
        }
        for (int run = 0; run < RUNS; run++) {
            Pair pair = new Pair();
            while (pair.calls <= CALLS_OF_AN_OBJECT - 4) {
                mixedCall(pair);
            }
        }
        System.out.println(wrong == 0 ? "all answers are as due" : wrong + " answers are not as due");
        if (wrong != 0) {
            System.exit(1);
        }
    }
}
