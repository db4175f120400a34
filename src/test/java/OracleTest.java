import java.util.ArrayList;
import java.util.Arrays;
import java.util.List;
import java.util.Set;
import java.util.TreeSet;

// Long runs of made-up calls, as many on each object as the document allows, against a second program that takes the
// document's words literally. Several manners of calling, so that few things, full lists, and what is made again after
// it was cleared are all seen; at the end, that the answers worth seeing did come.
public final class OracleTest {
    private static final int RUNS = 90;
    private static final int CALLS = 512;
    private static final String[] NAMES = {"term", "atom", "clause", "push", "pop", "clear", "models", "model", "holds", "one",
        "classes", "least", "why", "blame"};
    private static final int TERM = 0, ATOM = 1, CLAUSE = 2, PUSH = 3, POP = 4, CLEAR = 5, MODELS = 6, MODEL = 7, HOLDS = 8,
        ONE = 9, CLASSES = 10, LEAST = 11, WHY = 12, BLAME = 13;

    // Here most atoms link a term to the next one and lie on the stack in their order, so that what follows needs many.
    private static final String LINKED = "linked";
    private static final Manner[] MANNERS = {
        new Manner("ordinary", 6, 10, 10, 5, 5, 4, 10, 4, 1, 5, 5, 5, 5, 5, 5, 5, 5),
        new Manner("few things", 0, 5, 3, 4, 4, 3, 4, 3, 3, 3, 3, 3, 3, 3, 3, 3, 3),
        new Manner("made again", 4, 12, 2, 14, 9, 7, 9, 2, 3, 4, 4, 4, 4, 4, 4, 4, 4),
        new Manner("full", 16, 8, 40, 2, 12, 12, 20, 9, 1, 5, 5, 5, 5, 5, 5, 9, 9),
        new Manner("many models", 9, 12, 12, 3, 10, 1, 3, 3, 1, 5, 9, 7, 9, 7, 5, 7, 5),
        new Manner(LINKED, 7, 15, 3, 1, 20, 1, 24, 9, 2, 2, 2, 3, 5, 5, 9, 20, 14),
    };

    private static final List<Set<Integer>> SEEN = new ArrayList<>();
    private static final Set<Integer> PLACES_OF_WHY = new TreeSet<>();
    private static final Set<Integer> PLACES_OF_BLAME = new TreeSet<>();
    private static long seed = 1;

    /** How often what is called: some terms at first, then by weight, in the order of NAMES. */
    private static final class Manner {
        final String name;
        final int termsAtFirst;
        final int wrongOneIn;
        final int clearAllOneIn;
        final int[] weights;
        final int sum;

        Manner(String name, int termsAtFirst, int wrongOneIn, int clearAllOneIn, int... weights) {
            this.name = name;
            this.termsAtFirst = termsAtFirst;
            this.wrongOneIn = wrongOneIn;
            this.clearAllOneIn = clearAllOneIn;
            this.weights = weights;
            this.sum = Arrays.stream(weights).sum();
        }

        int method(int terms) {
            if (terms < termsAtFirst && upTo(20) > 0) {
                return TERM;
            }
            int left = upTo(sum);
            int method = 0;
            while (left >= weights[method]) {
                left -= weights[method];
                method++;
            }
            return method;
        }

        // A number that is there, or now and then one that is not.
        int number(int count) {
            int there = count == 0 ? 0 : upTo(count);
            if (upTo(wrongOneIn) > 0) {
                return there;
            }
            int[] wrong = {-1, -2, count, count + 1, there + 256, there + 65536, there - 65536, Integer.MAX_VALUE - there,
                Integer.MIN_VALUE + there};
            return wrong[upTo(wrong.length)];
        }

        int[] arguments(int method, int constants, Oracle o) {
            int terms = o.terms.size();
            int literals = 2 * o.atoms.size();
            switch (method) {
                case TERM: return new int[] {kind(terms, constants), number(terms), number(terms)};
                case ATOM: return isLinked() && upTo(3) > 0 ? link(o.atoms.size(), terms) : twoNumbers(terms);
                case CLAUSE: return new int[] {clauseLiteral(literals), clauseLiteral(literals), clauseLiteral(literals)};
                case PUSH: return isLinked() && upTo(3) > 0 ? next(o.stack.size(), literals) : new int[] {number(literals)};
                case HOLDS: return new int[] {number(literals)};
                case CLEAR: return new int[] {upTo(clearAllOneIn) == 0 ? 0 : upTo(3) == 0 ? number(3) : 1 + upTo(2)};
                case MODEL: return new int[] {number(o.models())};
                case CLASSES: return new int[] {number(2)};
                case LEAST: return new int[] {number(terms)};
                case ONE: case WHY: return twoNumbers(terms);
                default: return new int[0];
            }
        }

        private boolean isLinked() {
            return name.equals(LINKED);
        }

        private int[] link(int atoms, int terms) {
            return terms == 0 ? new int[] {0, 0} : new int[] {atoms % terms, (atoms + 1) % terms};
        }

        private int[] next(int depth, int literals) {
            int opposite = upTo(12) == 0 ? 1 : 0;
            return new int[] {literals == 0 ? 0 : 2 * depth % literals + opposite};
        }

        private int[] twoNumbers(int count) {
            return new int[] {number(count), number(count)};
        }

        private int kind(int terms, int constants) {
            return upTo(12) == 0 ? number(4) : terms < constants ? 0 : 1 + upTo(3);
        }

        private int clauseLiteral(int literals) {
            return upTo(3) == 0 ? -1 : number(literals);
        }
    }

    public static void main(String[] args) {
        for (int method = 0; method < NAMES.length; method++) {
            SEEN.add(new TreeSet<>());
        }
        for (Manner manner : MANNERS) {
            for (int run = 0; run < RUNS; run++) {
                seed = 1000003L * (run + 1) + manner.sum;
                oneRun(manner, run);
            }
        }
        checkSeen();
        System.out.println("all answers are those of the oracle");
    }

    // A fixed sequence of numbers, so that a failure comes again in the next run.
    private static int upTo(int bound) {
        seed = seed * 6364136223846793005L + 1442695040888963407L;
        return (int) ((seed >>> 33) % bound);
    }

    private static void oneRun(Manner manner, int run) {
        EqualityLab x = new EqualityLab();
        Oracle o = new Oracle();
        StringBuilder log = new StringBuilder("run " + run + ", " + manner.name + "\n");
        int constants = 1 + upTo(manner.isLinked() ? 12 : 5);
        for (int i = 0; i < CALLS; i++) {
            int method = manner.method(o.terms.size());
            int[] c = manner.arguments(method, constants, o);
            int got = answer(x, method, c);
            int want = o.answer(method, c);
            log.append(NAMES[method]).append(Arrays.toString(c)).append(" answered ").append(got).append('\n');
            if (got != want) {
                System.out.println(log + "due is " + want);
                System.exit(1);
            }
            note(method, got);
        }
    }

    private static int answer(EqualityLab x, int method, int[] c) {
        switch (method) {
            case TERM: return x.term(c[0], c[1], c[2]);
            case ATOM: return x.atom(c[0], c[1]);
            case CLAUSE: return x.clause(c[0], c[1], c[2]);
            case PUSH: return x.push(c[0]);
            case POP: return x.pop();
            case CLEAR: return x.clear(c[0]);
            case MODELS: return x.models();
            case MODEL: return x.model(c[0]);
            case HOLDS: return x.holds(c[0]);
            case ONE: return x.one(c[0], c[1]);
            case CLASSES: return x.classes(c[0]);
            case LEAST: return x.least(c[0]);
            case WHY: return x.why(c[0], c[1]);
            default: return x.blame();
        }
    }

    private static void note(int method, int got) {
        SEEN.get(method).add(got);
        if (method == WHY && got >= 0) {
            PLACES_OF_WHY.add(Integer.bitCount(got));
        }
        if (method == BLAME && got >= 0) {
            PLACES_OF_BLAME.add(Integer.bitCount(got));
        }
    }

    // Runs that never came to a limit, or never were without a model, would prove less than they seem to.
    private static void checkSeen() {
        int[][] worthSeeing = {
            {-1, 0, 15}, {-1, 0, 7}, {-1, 0, 11}, {-1, 1, 8}, {-1, 0, 15}, {-1, 0, 8, 12, 16}, {0, 1, 2}, {-1, 0, 255},
            {-2, -1, 0, 1, 2}, {-2, -1, 0, 1, 2}, {-2, -1, 0, 1, 16}, {-1, 0, 15}, {-2, -1, 0, 1, 128}, {-2, 1, 128}};
        for (int method = 0; method < NAMES.length; method++) {
            mustHave(SEEN.get(method), "answers of " + NAMES[method], worthSeeing[method]);
        }
        mustHave(PLACES_OF_WHY, "numbers of places of why", 0, 1, 2, 3, 4, 5, 6);
        mustHave(PLACES_OF_BLAME, "numbers of places of blame", 1, 2, 3, 4, 5);
    }

    private static void mustHave(Set<Integer> seen, String what, int... values) {
        for (int value : values) {
            if (!seen.contains(value)) {
                System.out.println("no run came to " + value + " among the " + what);
                System.exit(1);
            }
        }
    }

    /** Holds every equality in a table and finds each answer by trying all sets. */
    private static final class Oracle {
        final List<int[]> terms = new ArrayList<>();
        final List<int[]> atoms = new ArrayList<>();
        final List<int[]> clauses = new ArrayList<>();
        final List<Integer> stack = new ArrayList<>();
        // What follows from a set of atoms, kept until terms or atoms change.
        private final boolean[][][] known = new boolean[256][][];

        int answer(int method, int[] c) {
            switch (method) {
                case TERM: return term(c[0], c[1], c[2]);
                case ATOM: return atom(c[0], c[1]);
                case CLAUSE: return clause(c[0], c[1], c[2]);
                case PUSH: return push(c[0]);
                case POP: return pop();
                case CLEAR: return clear(c[0]);
                case MODELS: return models();
                case MODEL: return model(c[0]);
                case HOLDS: return holds(c[0]);
                case ONE: return one(c[0], c[1]);
                case CLASSES: return classes(c[0]);
                case LEAST: return least(c[0]);
                case WHY: return why(c[0], c[1]);
                default: return blame();
            }
        }

        int term(int kind, int a, int b) {
            boolean parts = kind == 0 || (kind == 2 ? isTerm(a) && isTerm(b) : isTerm(a));
            if (terms.size() == 16 || kind < 0 || kind > 3 || !parts) {
                return -1;
            }
            terms.add(new int[] {kind, a, b});
            forget();
            return terms.size() - 1;
        }

        int atom(int t, int u) {
            if (atoms.size() == 8 || !isTerm(t) || !isTerm(u)) {
                return -1;
            }
            atoms.add(new int[] {t, u});
            forget();
            return atoms.size() - 1;
        }

        int clause(int l, int m, int n) {
            List<Integer> kept = new ArrayList<>();
            for (int literal : new int[] {l, m, n}) {
                if (literal != -1) {
                    kept.add(literal);
                }
            }
            if (clauses.size() == 12 || kept.isEmpty()) {
                return -1;
            }
            int[] literals = new int[kept.size()];
            for (int i = 0; i < literals.length; i++) {
                literals[i] = kept.get(i);
                if (!isLiteral(literals[i])) {
                    return -1;
                }
            }
            clauses.add(literals);
            return clauses.size() - 1;
        }

        int push(int literal) {
            if (!isLiteral(literal) || stack.size() == 8) {
                return -1;
            }
            stack.add(literal);
            return stack.size();
        }

        int pop() {
            return stack.isEmpty() ? -1 : stack.remove(stack.size() - 1);
        }

        int clear(int what) {
            List<?> counted = what == 0 ? terms : what == 1 ? clauses : what == 2 ? stack : null;
            if (counted == null) {
                return -1;
            }
            int gone = counted.size();
            if (what == 0) {
                terms.clear();
                atoms.clear();
                forget();
            }
            if (what != 2) {
                clauses.clear();
            }
            if (what != 1) {
                stack.clear();
            }
            return gone;
        }

        List<Integer> modelList() {
            List<Integer> list = new ArrayList<>();
            for (int way = 0; way < 1 << atoms.size(); way++) {
                if (isPossible(way) && clausesHold(way) && allHold(stack, way)) {
                    list.add(way);
                }
            }
            return list;
        }

        int models() {
            return modelList().size();
        }

        int model(int k) {
            List<Integer> list = modelList();
            return k >= 0 && k < list.size() ? list.get(k) : -1;
        }

        int holds(int literal) {
            if (!isLiteral(literal)) {
                return -1;
            }
            boolean some = false;
            boolean all = true;
            List<Integer> list = modelList();
            for (int way : list) {
                some |= says(way, literal);
                all &= says(way, literal);
            }
            return list.isEmpty() ? -2 : all ? 1 : some ? 2 : 0;
        }

        int one(int t, int u) {
            if (!isTerm(t) || !isTerm(u)) {
                return -1;
            }
            boolean some = false;
            boolean all = true;
            List<Integer> list = modelList();
            for (int way : list) {
                boolean same = follows(way)[t][u];
                some |= same;
                all &= same;
            }
            return list.isEmpty() ? -2 : all ? 1 : some ? 2 : 0;
        }

        int classes(int what) {
            if (what != 0 && what != 1) {
                return -1;
            }
            List<Integer> counts = new ArrayList<>();
            for (int way : modelList()) {
                boolean[][] same = follows(way);
                int count = 0;
                for (int t = 0; t < terms.size(); t++) {
                    boolean first = true;
                    for (int u = 0; u < t; u++) {
                        first &= !same[t][u];
                    }
                    count += first ? 1 : 0;
                }
                counts.add(count);
            }
            counts.sort(null);
            return counts.isEmpty() ? -2 : counts.get(what == 0 ? 0 : counts.size() - 1);
        }

        int least(int t) {
            if (!isTerm(t)) {
                return -1;
            }
            boolean[][] same = follows(atomsOf((1 << stack.size()) - 1));
            int u = 0;
            while (!same[t][u]) {
                u++;
            }
            return u;
        }

        int why(int t, int u) {
            if (!isTerm(t) || !isTerm(u)) {
                return -1;
            }
            for (int size = 0; size <= stack.size(); size++) {
                for (int places = 0; places < 1 << stack.size(); places++) {
                    if (Integer.bitCount(places) == size && onlyAtoms(places) && follows(atomsOf(places))[t][u]) {
                        return places;
                    }
                }
            }
            return -2;
        }

        int blame() {
            List<Integer> possible = new ArrayList<>();
            for (int way = 0; way < 1 << atoms.size(); way++) {
                if (isPossible(way)) {
                    possible.add(way);
                }
            }
            for (int size = 0; size <= stack.size(); size++) {
                for (int places = 0; places < 1 << stack.size(); places++) {
                    if (Integer.bitCount(places) == size && noneHas(possible, places)) {
                        return places;
                    }
                }
            }
            return -2;
        }

        private boolean noneHas(List<Integer> possible, int places) {
            List<Integer> chosen = new ArrayList<>();
            for (int p = 0; p < stack.size(); p++) {
                if ((places >> p & 1) == 1) {
                    chosen.add(stack.get(p));
                }
            }
            for (int way : possible) {
                if (allHold(chosen, way)) {
                    return false;
                }
            }
            return true;
        }

        private boolean onlyAtoms(int places) {
            for (int p = 0; p < stack.size(); p++) {
                if ((places >> p & 1) == 1 && stack.get(p) % 2 == 1) {
                    return false;
                }
            }
            return true;
        }

        private int atomsOf(int places) {
            int set = 0;
            for (int p = 0; p < stack.size(); p++) {
                if ((places >> p & 1) == 1 && stack.get(p) % 2 == 0) {
                    set |= 1 << stack.get(p) / 2;
                }
            }
            return set;
        }

        private boolean isTerm(int t) {
            return t >= 0 && t < terms.size();
        }

        private boolean isLiteral(int literal) {
            return literal >= 0 && literal / 2 < atoms.size();
        }

        private boolean says(int way, int literal) {
            boolean atomHolds = (way >> literal / 2 & 1) == 1;
            return literal % 2 == 0 ? atomHolds : !atomHolds;
        }

        private boolean allHold(List<Integer> literals, int way) {
            for (int literal : literals) {
                if (!says(way, literal)) {
                    return false;
                }
            }
            return true;
        }

        private boolean clausesHold(int way) {
            for (int[] literals : clauses) {
                boolean some = false;
                for (int literal : literals) {
                    some |= says(way, literal);
                }
                if (!some) {
                    return false;
                }
            }
            return true;
        }

        private boolean isPossible(int way) {
            boolean[][] same = follows(way);
            for (int a = 0; a < atoms.size(); a++) {
                if ((way >> a & 1) == 0 && same[atoms.get(a)[0]][atoms.get(a)[1]]) {
                    return false;
                }
            }
            return true;
        }

        private void forget() {
            for (int i = 0; i < known.length; i++) {
                known[i] = null;
            }
        }

        private boolean[][] follows(int set) {
            if (known[set] == null) {
                known[set] = derive(set);
            }
            return known[set];
        }

        // The rules of "FOLLOW" one after another until none adds an equality.
        private boolean[][] derive(int set) {
            int n = terms.size();
            boolean[][] same = new boolean[n][n];
            for (int t = 0; t < n; t++) {
                same[t][t] = true;
            }
            for (int a = 0; a < atoms.size(); a++) {
                if ((set >> a & 1) == 1) {
                    same[atoms.get(a)[0]][atoms.get(a)[1]] = true;
                    same[atoms.get(a)[1]][atoms.get(a)[0]] = true;
                }
            }
            boolean added = true;
            while (added) {
                added = false;
                for (int t = 0; t < n; t++) {
                    for (int u = 0; u < n; u++) {
                        if (!same[t][u] && (sameMiddle(same, t, u) || sameParts(same, t, u))) {
                            same[t][u] = true;
                            same[u][t] = true;
                            added = true;
                        }
                    }
                }
            }
            return same;
        }

        private boolean sameMiddle(boolean[][] same, int t, int u) {
            for (int v = 0; v < same.length; v++) {
                if (same[t][v] && same[v][u]) {
                    return true;
                }
            }
            return false;
        }

        private boolean sameParts(boolean[][] same, int t, int u) {
            int[] p = terms.get(t);
            int[] q = terms.get(u);
            if (p[0] != q[0] || p[0] == 0) {
                return false;
            }
            return same[p[1]][q[1]] && (p[0] != 2 || same[p[2]][q[2]]);
        }
    }
}
