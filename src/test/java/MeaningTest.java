import java.util.ArrayList;
import java.util.List;

// "Whatever the constants are and whatever F, G, H give", taken at its word: no equality is derived here. All choices of
// values for the terms are tried, what follows is what holds in all of them, and everything else is built on that.
public final class MeaningTest {
    private static final int R = EqualityLab.REFUSED;
    private static final int N = EqualityLab.NONE;
    private static final int CALLS = 512;
    private static final int MADE_UP = 250;
    private static final int SETTINGS = 6;

    private static long seed = 20261115;
    private static int states = 0;
    private static int wrong = 0;

    public static void main(String[] args) {
        allListsOfFourTerms();
        madeUpLists();
        System.out.println(states + " states: " + (wrong == 0 ? "all answers are as due" : wrong + " answers are not as due"));
        if (wrong != 0) {
            System.exit(1);
        }
    }

    // A fixed sequence of numbers, so that a failure comes again in the next run.
    private static int upTo(int bound) {
        seed = seed * 6364136223846793005L + 1442695040888963407L;
        return (int) ((seed >>> 33) % bound);
    }

    // Every list of four terms, with the equalities of each two of them, and each literal alone on the stack.
    private static void allListsOfFourTerms() {
        for (int[] second : termsOf(1)) {
            for (int[] third : termsOf(2)) {
                for (int[] fourth : termsOf(3)) {
                    Meaning m = new Meaning();
                    m.terms.add(new int[] {0, 0, 0});
                    m.terms.add(second);
                    m.terms.add(third);
                    m.terms.add(fourth);
                    for (int t = 0; t < 4; t++) {
                        for (int u = 0; u < t; u++) {
                            m.atoms.add(new int[] {t, u});
                        }
                    }
                    m.giveValues();
                    check(m);
                    for (int literal = 0; literal < 12; literal++) {
                        m.stack.clear();
                        m.stack.add(literal);
                        check(m);
                    }
                }
            }
        }
    }

    private static List<int[]> termsOf(int before) {
        List<int[]> terms = new ArrayList<>();
        terms.add(new int[] {0, 0, 0});
        for (int a = 0; a < before; a++) {
            terms.add(new int[] {1, a, 0});
            terms.add(new int[] {3, a, 0});
            for (int b = 0; b < before; b++) {
                terms.add(new int[] {2, a, b});
            }
        }
        return terms;
    }

    private static void madeUpLists() {
        for (int list = 0; list < MADE_UP; list++) {
            Meaning m = new Meaning();
            int terms = 5 + upTo(4);
            int constants = 1 + upTo(4);
            for (int t = 0; t < terms; t++) {
                int kind = t < constants ? 0 : 1 + upTo(3);
                m.terms.add(new int[] {kind, t == 0 ? 0 : upTo(t), t == 0 ? 0 : upTo(t)});
            }
            int atoms = 1 + upTo(8);
            for (int a = 0; a < atoms; a++) {
                m.atoms.add(new int[] {upTo(terms), upTo(terms)});
            }
            m.giveValues();
            for (int setting = 0; setting < SETTINGS; setting++) {
                fillStackAndClauses(m, setting);
                check(m);
            }
        }
    }

    private static void fillStackAndClauses(Meaning m, int setting) {
        int literals = 2 * m.atoms.size();
        m.stack.clear();
        m.clauses.clear();
        int depth = setting == 0 ? 8 : upTo(9);
        for (int place = 0; place < depth; place++) {
            // Mostly atoms, since opposites alone make nothing follow.
            m.stack.add(upTo(3) == 0 ? upTo(literals) : 2 * upTo(m.atoms.size()));
        }
        int clauses = upTo(4);
        for (int c = 0; c < clauses; c++) {
            m.clauses.add(new int[] {upTo(literals), upTo(2) == 0 ? -1 : upTo(literals), upTo(2) == 0 ? -1 : upTo(literals)});
        }
    }

    private static void due(Meaning m, String call, int got, int want) {
        if (got != want) {
            wrong++;
            System.out.println(m.text() + ": " + call + " answered " + got + ", due is " + want);
        }
    }

    private static void check(Meaning m) {
        states++;
        EqualityLab x = m.build();
        checkModels(m, x);
        // A second object, so that neither is asked more often than the document allows.
        EqualityLab y = m.build();
        checkTerms(m, y);
    }

    private static void checkModels(Meaning m, EqualityLab x) {
        List<Integer> models = m.models();
        due(m, "models()", x.models(), models.size());
        for (int k = 0; k < models.size(); k++) {
            due(m, "model(" + k + ")", x.model(k), models.get(k));
        }
        due(m, "model(" + models.size() + ")", x.model(models.size()), R);
        for (int literal = 0; literal < 2 * m.atoms.size(); literal++) {
            int all = 0;
            for (int way : models) {
                all += m.says(way, literal) ? 1 : 0;
            }
            due(m, "holds(" + literal + ")", x.holds(literal), verdict(all, models.size()));
        }
        int least = N;
        int greatest = N;
        for (int way : models) {
            int count = m.classes(way);
            least = least == N ? count : Math.min(least, count);
            greatest = Math.max(greatest, count);
        }
        due(m, "classes(0)", x.classes(0), least);
        due(m, "classes(1)", x.classes(1), greatest);
        due(m, "blame()", x.blame(), m.blame());
        if (m.made() + models.size() + 2 * m.atoms.size() + 5 > CALLS) {
            wrong++;
            System.out.println(m.text() + ": the test makes too many calls");
        }
    }

    private static void checkTerms(Meaning m, EqualityLab x) {
        List<Integer> models = m.models();
        for (int t = 0; t < m.terms.size(); t++) {
            for (int u = 0; u < m.terms.size(); u++) {
                int all = 0;
                for (int way : models) {
                    all += m.follows(way)[t][u] ? 1 : 0;
                }
                due(m, "one(" + t + ", " + u + ")", x.one(t, u), verdict(all, models.size()));
                due(m, "why(" + t + ", " + u + ")", x.why(t, u), m.why(t, u));
            }
            due(m, "least(" + t + ")", x.least(t), m.least(t));
        }
    }

    private static int verdict(int agreeing, int found) {
        return found == 0 ? N : agreeing == found ? 1 : agreeing == 0 ? 0 : 2;
    }

    /** Terms, atoms, clauses and a stack, with all choices of values for the terms. */
    private static final class Meaning {
        final List<int[]> terms = new ArrayList<>();
        final List<int[]> atoms = new ArrayList<>();
        final List<int[]> clauses = new ArrayList<>();
        final List<Integer> stack = new ArrayList<>();
        private final List<int[]> choices = new ArrayList<>();
        private final boolean[][][] known = new boolean[256][][];

        int made() {
            return terms.size() + atoms.size() + clauses.size() + stack.size();
        }

        String text() {
            StringBuilder s = new StringBuilder("terms");
            for (int[] t : terms) {
                s.append(' ').append(t[0]).append(':').append(t[1]).append(',').append(t[2]);
            }
            s.append(" atoms");
            for (int[] a : atoms) {
                s.append(' ').append(a[0]).append('=').append(a[1]);
            }
            s.append(" clauses");
            for (int[] c : clauses) {
                s.append(' ').append(c[0]).append('/').append(c[1]).append('/').append(c[2]);
            }
            return s.append(" stack ").append(stack).toString();
        }

        EqualityLab build() {
            EqualityLab x = new EqualityLab();
            for (int[] t : terms) {
                x.term(t[0], t[1], t[2]);
            }
            for (int[] a : atoms) {
                x.atom(a[0], a[1]);
            }
            for (int[] c : clauses) {
                x.clause(c[0], c[1], c[2]);
            }
            for (int literal : stack) {
                x.push(literal);
            }
            return x;
        }

        void giveValues() {
            giveValues(0, 0, new int[terms.size()]);
        }

        // What the values are called does not matter, so each new one is called by the next number.
        private void giveValues(int t, int used, int[] values) {
            if (t == terms.size()) {
                choices.add(values.clone());
                return;
            }
            int given = valueGiven(t, values);
            for (int value = 0; value <= used; value++) {
                if (given == -1 || given == value) {
                    values[t] = value;
                    giveValues(t + 1, value == used ? used + 1 : used, values);
                }
            }
        }

        // A function gives one value for the same arguments: if it was asked for them before, the value is settled.
        private int valueGiven(int t, int[] values) {
            int[] p = terms.get(t);
            for (int u = 0; u < t; u++) {
                int[] q = terms.get(u);
                boolean sameFirst = values[p[1]] == values[q[1]];
                boolean sameSecond = p[0] != 2 || values[p[2]] == values[q[2]];
                if (p[0] != 0 && p[0] == q[0] && sameFirst && sameSecond) {
                    return values[u];
                }
            }
            return -1;
        }

        boolean[][] follows(int set) {
            if (known[set] == null) {
                int n = terms.size();
                boolean[][] same = new boolean[n][n];
                for (int t = 0; t < n; t++) {
                    for (int u = 0; u < n; u++) {
                        same[t][u] = holdsWhatever(set, t, u);
                    }
                }
                known[set] = same;
            }
            return known[set];
        }

        private boolean holdsWhatever(int set, int t, int u) {
            for (int[] values : choices) {
                if (values[t] != values[u] && allTrue(set, values)) {
                    return false;
                }
            }
            return true;
        }

        private boolean allTrue(int set, int[] values) {
            for (int a = 0; a < atoms.size(); a++) {
                if ((set >> a & 1) == 1 && values[atoms.get(a)[0]] != values[atoms.get(a)[1]]) {
                    return false;
                }
            }
            return true;
        }

        boolean says(int way, int literal) {
            return (way >> literal / 2 & 1) != literal % 2;
        }

        private boolean isPossible(int way) {
            for (int a = 0; a < atoms.size(); a++) {
                if ((way >> a & 1) == 0 && follows(way)[atoms.get(a)[0]][atoms.get(a)[1]]) {
                    return false;
                }
            }
            return true;
        }

        private boolean clausesHold(int way) {
            for (int[] clause : clauses) {
                boolean some = false;
                for (int literal : clause) {
                    some |= literal != -1 && says(way, literal);
                }
                if (!some) {
                    return false;
                }
            }
            return true;
        }

        private boolean has(int way, int places) {
            for (int place = 0; place < stack.size(); place++) {
                if ((places >> place & 1) == 1 && !says(way, stack.get(place))) {
                    return false;
                }
            }
            return true;
        }

        List<Integer> models() {
            List<Integer> models = new ArrayList<>();
            for (int way = 0; way < 1 << atoms.size(); way++) {
                if (isPossible(way) && clausesHold(way) && has(way, (1 << stack.size()) - 1)) {
                    models.add(way);
                }
            }
            return models;
        }

        int classes(int way) {
            int count = 0;
            for (int t = 0; t < terms.size(); t++) {
                boolean first = true;
                for (int u = 0; u < t; u++) {
                    first &= !follows(way)[t][u];
                }
                count += first ? 1 : 0;
            }
            return count;
        }

        // The atoms at these places, or -1 if an opposite lies at one of them.
        private int atomsAt(int places) {
            int set = 0;
            for (int place = 0; place < stack.size(); place++) {
                if ((places >> place & 1) == 1) {
                    if (stack.get(place) % 2 == 1) {
                        return -1;
                    }
                    set |= 1 << stack.get(place) / 2;
                }
            }
            return set;
        }

        int least(int t) {
            int set = 0;
            for (int literal : stack) {
                set |= literal % 2 == 0 ? 1 << literal / 2 : 0;
            }
            int u = 0;
            while (!follows(set)[u][t]) {
                u++;
            }
            return u;
        }

        int why(int t, int u) {
            int best = N;
            for (int places = 0; places < 1 << stack.size(); places++) {
                int set = atomsAt(places);
                if (set != -1 && follows(set)[t][u] && (best == N || Integer.bitCount(places) < Integer.bitCount(best))) {
                    best = places;
                }
            }
            return best;
        }

        int blame() {
            int best = N;
            for (int places = 0; places < 1 << stack.size(); places++) {
                if ((best == N || Integer.bitCount(places) < Integer.bitCount(best)) && noPossibleWayHas(places)) {
                    best = places;
                }
            }
            return best;
        }

        private boolean noPossibleWayHas(int places) {
            for (int way = 0; way < 1 << atoms.size(); way++) {
                if (has(way, places) && isPossible(way)) {
                    return false;
                }
            }
            return true;
        }
    }
}
