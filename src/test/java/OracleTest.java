import java.util.ArrayList;
import java.util.List;

// Long runs of made-up calls against a second program that takes the document's words literally.
public final class OracleTest {
    private static final int RUNS = 400;
    private static final int CALLS = 512;
    private static long seed = 1;

    public static void main(String[] args) {
        for (int run = 0; run < RUNS; run++) {
            seed = 1000003L * (run + 1);
            oneRun(run);
        }
        System.out.println("all answers are those of the oracle");
    }

    // A fixed sequence of numbers, so that a failure comes again in the next run.
    private static int upTo(int bound) {
        seed = seed * 6364136223846793005L + 1442695040888963407L;
        return (int) ((seed >>> 33) % bound);
    }

    private static int near(int count) {
        int pick = upTo(40);
        if (pick == 0) {
            return -1;
        }
        if (pick == 1) {
            return count;
        }
        if (pick == 2) {
            return Integer.MAX_VALUE - upTo(2);
        }
        if (pick == 3) {
            return Integer.MIN_VALUE + upTo(2);
        }
        return count == 0 ? 0 : upTo(count);
    }

    private static int clauseLiteral(int count) {
        return upTo(3) == 0 ? -1 : near(count);
    }

    private static void oneRun(int run) {
        EqualityLab x = new EqualityLab();
        Oracle o = new Oracle();
        StringBuilder log = new StringBuilder();
        int constants = 1 + upTo(5);
        for (int i = 0; i < CALLS; i++) {
            int t = o.terms.size();
            int l = 2 * o.atoms.size();
            int call = pick(t);
            int a = 0;
            int b = 0;
            int c = 0;
            int got;
            int want;
            switch (call) {
                case 0:
                    a = upTo(30) == 0 ? near(4) : t < constants ? 0 : 1 + upTo(3);
                    b = near(t);
                    c = near(t);
                    got = x.term(a, b, c);
                    want = o.term(a, b, c);
                    break;
                case 1:
                    a = near(t);
                    b = near(t);
                    got = x.atom(a, b);
                    want = o.atom(a, b);
                    break;
                case 2:
                    a = clauseLiteral(l);
                    b = clauseLiteral(l);
                    c = clauseLiteral(l);
                    got = x.clause(a, b, c);
                    want = o.clause(a, b, c);
                    break;
                case 3:
                    a = near(l);
                    got = x.push(a);
                    want = o.push(a);
                    break;
                case 4:
                    got = x.pop();
                    want = o.pop();
                    break;
                case 5:
                    a = upTo(4) == 0 ? near(3) : 1 + upTo(2);
                    got = x.clear(a);
                    want = o.clear(a);
                    break;
                case 6:
                    got = x.models();
                    want = o.models();
                    break;
                case 7:
                    a = near(o.modelList().size());
                    got = x.model(a);
                    want = o.model(a);
                    break;
                case 8:
                    a = near(l);
                    got = x.holds(a);
                    want = o.holds(a);
                    break;
                case 9:
                    a = near(t);
                    b = near(t);
                    got = x.one(a, b);
                    want = o.one(a, b);
                    break;
                case 10:
                    a = near(2);
                    got = x.classes(a);
                    want = o.classes(a);
                    break;
                case 11:
                    a = near(t);
                    got = x.least(a);
                    want = o.least(a);
                    break;
                case 12:
                    a = near(t);
                    b = near(t);
                    got = x.why(a, b);
                    want = o.why(a, b);
                    break;
                default:
                    got = x.blame();
                    want = o.blame();
                    break;
            }
            log.append("call ").append(call).append(" (").append(a).append(", ").append(b).append(", ").append(c)
                .append(") answered ").append(got).append('\n');
            if (got != want) {
                System.out.println("run " + run + "\n" + log + "due is " + want);
                System.exit(1);
            }
        }
    }

    private static int pick(int terms) {
        if (terms < 6 || (terms < 16 && upTo(12) == 0)) {
            return 0;
        }
        int p = upTo(60);
        if (p < 5) {
            return 1;
        }
        if (p < 9) {
            return 2;
        }
        if (p < 19) {
            return 3;
        }
        if (p < 23) {
            return 4;
        }
        if (p < 24) {
            return 5;
        }
        return 6 + p % 8;
    }

    /** Holds every equality in a table and finds each answer by trying all sets. */
    private static final class Oracle {
        final List<int[]> terms = new ArrayList<>();
        final List<int[]> atoms = new ArrayList<>();
        final List<int[]> clauses = new ArrayList<>();
        final List<Integer> stack = new ArrayList<>();
        // What follows from a set of atoms, kept until terms or atoms change.
        private final boolean[][][] known = new boolean[256][][];

        int term(int kind, int a, int b) {
            boolean parts = kind == 0 || (kind == 2 ? isTerm(a) && isTerm(b) : isTerm(a));
            if (terms.size() == 16 || kind < 0 || kind > 3 || !parts) {
                return -1;
            }
            terms.add(new int[] {kind, a, b});
            forget();
            return terms.size() - 1;
        }

        int atom(int t, int u) {
            if (atoms.size() == 8 || !isTerm(t) || !isTerm(u)) {
                return -1;
            }
            atoms.add(new int[] {t, u});
            forget();
            return atoms.size() - 1;
        }

        int clause(int l, int m, int n) {
            List<Integer> kept = new ArrayList<>();
            for (int literal : new int[] {l, m, n}) {
                if (literal != -1) {
                    kept.add(literal);
                }
            }
            if (clauses.size() == 12 || kept.isEmpty()) {
                return -1;
            }
            int[] literals = new int[kept.size()];
            for (int i = 0; i < literals.length; i++) {
                literals[i] = kept.get(i);
                if (!isLiteral(literals[i])) {
                    return -1;
                }
            }
            clauses.add(literals);
            return clauses.size() - 1;
        }

        int push(int literal) {
            if (!isLiteral(literal) || stack.size() == 8) {
                return -1;
            }
            stack.add(literal);
            return stack.size();
        }

        int pop() {
            return stack.isEmpty() ? -1 : stack.remove(stack.size() - 1);
        }

        int clear(int what) {
            List<?> counted = what == 0 ? terms : what == 1 ? clauses : what == 2 ? stack : null;
            if (counted == null) {
                return -1;
            }
            int gone = counted.size();
            if (what == 0) {
                terms.clear();
                atoms.clear();
                forget();
            }
            if (what != 2) {
                clauses.clear();
            }
            if (what != 1) {
                stack.clear();
            }
            return gone;
        }

        List<Integer> modelList() {
            List<Integer> list = new ArrayList<>();
            for (int way = 0; way < 1 << atoms.size(); way++) {
                if (isPossible(way) && clausesHold(way) && allHold(stack, way)) {
                    list.add(way);
                }
            }
            return list;
        }

        int models() {
            return modelList().size();
        }

        int model(int k) {
            List<Integer> list = modelList();
            return k >= 0 && k < list.size() ? list.get(k) : -1;
        }

        int holds(int literal) {
            if (!isLiteral(literal)) {
                return -1;
            }
            boolean some = false;
            boolean all = true;
            List<Integer> list = modelList();
            for (int way : list) {
                some |= says(way, literal);
                all &= says(way, literal);
            }
            return list.isEmpty() ? -2 : all ? 1 : some ? 2 : 0;
        }

        int one(int t, int u) {
            if (!isTerm(t) || !isTerm(u)) {
                return -1;
            }
            boolean some = false;
            boolean all = true;
            List<Integer> list = modelList();
            for (int way : list) {
                boolean same = follows(way)[t][u];
                some |= same;
                all &= same;
            }
            return list.isEmpty() ? -2 : all ? 1 : some ? 2 : 0;
        }

        int classes(int what) {
            if (what != 0 && what != 1) {
                return -1;
            }
            List<Integer> counts = new ArrayList<>();
            for (int way : modelList()) {
                boolean[][] same = follows(way);
                int count = 0;
                for (int t = 0; t < terms.size(); t++) {
                    boolean first = true;
                    for (int u = 0; u < t; u++) {
                        first &= !same[t][u];
                    }
                    count += first ? 1 : 0;
                }
                counts.add(count);
            }
            counts.sort(null);
            return counts.isEmpty() ? -2 : counts.get(what == 0 ? 0 : counts.size() - 1);
        }

        int least(int t) {
            if (!isTerm(t)) {
                return -1;
            }
            boolean[][] same = follows(atomsOf((1 << stack.size()) - 1));
            int u = 0;
            while (!same[t][u]) {
                u++;
            }
            return u;
        }

        int why(int t, int u) {
            if (!isTerm(t) || !isTerm(u)) {
                return -1;
            }
            for (int size = 0; size <= stack.size(); size++) {
                for (int places = 0; places < 1 << stack.size(); places++) {
                    if (Integer.bitCount(places) == size && onlyAtoms(places) && follows(atomsOf(places))[t][u]) {
                        return places;
                    }
                }
            }
            return -2;
        }

        int blame() {
            List<Integer> possible = new ArrayList<>();
            for (int way = 0; way < 1 << atoms.size(); way++) {
                if (isPossible(way)) {
                    possible.add(way);
                }
            }
            for (int size = 0; size <= stack.size(); size++) {
                for (int places = 0; places < 1 << stack.size(); places++) {
                    if (Integer.bitCount(places) == size && noneHas(possible, places)) {
                        return places;
                    }
                }
            }
            return -2;
        }

        private boolean noneHas(List<Integer> possible, int places) {
            List<Integer> chosen = new ArrayList<>();
            for (int p = 0; p < stack.size(); p++) {
                if ((places >> p & 1) == 1) {
                    chosen.add(stack.get(p));
                }
            }
            for (int way : possible) {
                if (allHold(chosen, way)) {
                    return false;
                }
            }
            return true;
        }

        private boolean onlyAtoms(int places) {
            for (int p = 0; p < stack.size(); p++) {
                if ((places >> p & 1) == 1 && stack.get(p) % 2 == 1) {
                    return false;
                }
            }
            return true;
        }

        private int atomsOf(int places) {
            int set = 0;
            for (int p = 0; p < stack.size(); p++) {
                if ((places >> p & 1) == 1 && stack.get(p) % 2 == 0) {
                    set |= 1 << stack.get(p) / 2;
                }
            }
            return set;
        }

        private boolean isTerm(int t) {
            return t >= 0 && t < terms.size();
        }

        private boolean isLiteral(int literal) {
            return literal >= 0 && literal / 2 < atoms.size();
        }

        private boolean says(int way, int literal) {
            boolean atomHolds = (way >> literal / 2 & 1) == 1;
            return literal % 2 == 0 ? atomHolds : !atomHolds;
        }

        private boolean allHold(List<Integer> literals, int way) {
            for (int literal : literals) {
                if (!says(way, literal)) {
                    return false;
                }
            }
            return true;
        }

        private boolean clausesHold(int way) {
            for (int[] literals : clauses) {
                boolean some = false;
                for (int literal : literals) {
                    some |= says(way, literal);
                }
                if (!some) {
                    return false;
                }
            }
            return true;
        }

        private boolean isPossible(int way) {
            boolean[][] same = follows(way);
            for (int a = 0; a < atoms.size(); a++) {
                if ((way >> a & 1) == 0 && same[atoms.get(a)[0]][atoms.get(a)[1]]) {
                    return false;
                }
            }
            return true;
        }

        private void forget() {
            for (int i = 0; i < known.length; i++) {
                known[i] = null;
            }
        }

        private boolean[][] follows(int set) {
            if (known[set] == null) {
                known[set] = derive(set);
            }
            return known[set];
        }

        // The rules of "FOLLOW" one after another until none adds an equality.
        private boolean[][] derive(int set) {
            int n = terms.size();
            boolean[][] same = new boolean[n][n];
            for (int t = 0; t < n; t++) {
                same[t][t] = true;
            }
            for (int a = 0; a < atoms.size(); a++) {
                if ((set >> a & 1) == 1) {
                    same[atoms.get(a)[0]][atoms.get(a)[1]] = true;
                    same[atoms.get(a)[1]][atoms.get(a)[0]] = true;
                }
            }
            boolean added = true;
            while (added) {
                added = false;
                for (int t = 0; t < n; t++) {
                    for (int u = 0; u < n; u++) {
                        if (!same[t][u] && (sameMiddle(same, t, u) || sameParts(same, t, u))) {
                            same[t][u] = true;
                            same[u][t] = true;
                            added = true;
                        }
                    }
                }
            }
            return same;
        }

        private boolean sameMiddle(boolean[][] same, int t, int u) {
            for (int v = 0; v < same.length; v++) {
                if (same[t][v] && same[v][u]) {
                    return true;
                }
            }
            return false;
        }

        private boolean sameParts(boolean[][] same, int t, int u) {
            int[] p = terms.get(t);
            int[] q = terms.get(u);
            if (p[0] != q[0] || p[0] == 0) {
                return false;
            }
            return same[p[1]][q[1]] && (p[0] != 2 || same[p[2]][q[2]]);
        }
    }
}
