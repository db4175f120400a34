import java.util.ArrayList;
import java.util.Arrays;
import java.util.List;

// Promise 16: a call that is refused changes nothing, and no question does. Each refused call, and each question,
// is made on an object of which there is a twin without that call; then all that can be seen of the two is compared.
public final class RefusalTest {
    private static final int R = EqualityLab.REFUSED;
    private static final int MIN = Integer.MIN_VALUE;
    private static final int MAX = Integer.MAX_VALUE;
    private static final int CALLS = 512;
    private static final String[] NAMES = {"term", "atom", "clause", "push", "pop", "clear", "models", "model", "holds", "one",
        "classes", "least", "why", "blame"};
    private static final int TERM = 0, ATOM = 1, CLAUSE = 2, PUSH = 3, POP = 4, CLEAR = 5, MODELS = 6, MODEL = 7, HOLDS = 8,
        ONE = 9, CLASSES = 10, LEAST = 11, WHY = 12, BLAME = 13;
    private static final int PROBES = 5;

    private static int compared = 0;
    private static int wrong = 0;

    // The calls that make a state, and how much is there then.
    private static final class State {
        final String name;
        final List<int[]> calls = new ArrayList<>();
        int terms = 0;
        int atoms = 0;
        int clauses = 0;
        int stack = 0;

        State(String name) {
            this.name = name;
        }

        State with(int terms, int atoms, int clauses, int stack) {
            this.terms = terms;
            this.atoms = atoms;
            this.clauses = clauses;
            this.stack = stack;
            return this;
        }

        State call(int... call) {
            calls.add(call);
            return this;
        }
    }

    public static void main(String[] args) {
        for (State state : states()) {
            checkCounts(state);
            List<List<Integer>> due = new ArrayList<>();
            for (int probe = 0; probe < PROBES; probe++) {
                due.add(seen(state, null, probe));
            }
            for (int[] call : refusedCalls(state)) {
                if (answer(made(state), call) != R) {
                    wrong("in state " + state.name + " " + text(call) + " is not refused");
                }
                compare(state, call, due);
            }
            for (int[] call : questions(state)) {
                compare(state, call, due);
            }
        }
        System.out.println(compared + " calls: " + (wrong == 0 ? "none of them changes anything" : wrong + " faults"));
        if (wrong != 0) {
            System.exit(1);
        }
    }

    private static void wrong(String message) {
        wrong++;
        System.out.println(message);
    }

    private static String text(int[] call) {
        String arguments = Arrays.toString(Arrays.copyOfRange(call, 1, call.length));
        return NAMES[call[0]] + "(" + arguments.substring(1, arguments.length() - 1) + ")";
    }

    private static int answer(EqualityLab x, int... c) {
        switch (c[0]) {
            case TERM: return x.term(c[1], c[2], c[3]);
            case ATOM: return x.atom(c[1], c[2]);
            case CLAUSE: return x.clause(c[1], c[2], c[3]);
            case PUSH: return x.push(c[1]);
            case POP: return x.pop();
            case CLEAR: return x.clear(c[1]);
            case MODELS: return x.models();
            case MODEL: return x.model(c[1]);
            case HOLDS: return x.holds(c[1]);
            case ONE: return x.one(c[1], c[2]);
            case CLASSES: return x.classes(c[1]);
            case LEAST: return x.least(c[1]);
            case WHY: return x.why(c[1], c[2]);
            default: return x.blame();
        }
    }

    // ---- states

    private static List<State> states() {
        List<State> states = new ArrayList<>();
        states.add(new State("new"));
        states.add(cleared());
        states.add(new State("one term").call(TERM, 0, 0, 0).with(1, 0, 0, 0));
        states.add(ordinary());
        states.add(withoutModel());
        states.add(filled("terms alone", 16, 0, 0, 0));
        states.add(filled("an empty stack", 9, 4, 5, 0));
        states.add(filled("no clauses", 9, 4, 0, 5));
        states.add(filled("one below each limit", 15, 7, 11, 7));
        states.add(filled("full", 16, 8, 12, 8));
        return states;
    }

    private static State cleared() {
        State s = filled("cleared", 16, 8, 12, 8);
        return s.call(CLEAR, 0).with(0, 0, 0, 0);
    }

    private static State ordinary() {
        State s = new State("ordinary");
        s.call(TERM, 0, 0, 0).call(TERM, 0, 0, 0).call(TERM, 1, 0, 0).call(TERM, 1, 1, 0).call(TERM, 2, 0, 1).call(TERM, 3, 4, 0);
        s.call(ATOM, 0, 1).call(ATOM, 2, 3).call(ATOM, 4, 5);
        s.call(CLAUSE, 0, 4, -1).call(CLAUSE, 2, 3, 5);
        s.call(PUSH, 2).call(PUSH, 5);
        return s.with(6, 3, 2, 2);
    }

    private static State withoutModel() {
        State s = new State("without a model");
        s.call(TERM, 0, 0, 0).call(TERM, 0, 0, 0).call(TERM, 1, 0, 0).call(TERM, 1, 1, 0);
        s.call(ATOM, 0, 1).call(ATOM, 2, 3);
        s.call(CLAUSE, 0, -1, -1);
        s.call(PUSH, 2).call(PUSH, 0).call(PUSH, 3);
        return s.with(4, 2, 1, 3);
    }

    private static State filled(String name, int terms, int atoms, int clauses, int stack) {
        State s = new State(name);
        for (int t = 0; t < terms; t++) {
            if (t < 6) {
                s.call(TERM, 0, 0, 0);
            } else {
                s.call(TERM, 1 + t % 3, t - 6, t - 5);
            }
        }
        for (int a = 0; a < atoms; a++) {
            s.call(ATOM, a, terms - 1 - a);
        }
        for (int c = 0; c < clauses; c++) {
            s.call(CLAUSE, c % (2 * atoms), (c + 5) % (2 * atoms), c % 2 == 0 ? -1 : (c + 9) % (2 * atoms));
        }
        for (int place = 0; place < stack; place++) {
            s.call(PUSH, place % 3 == 0 ? 2 : 5);
        }
        return s.with(terms, atoms, clauses, stack);
    }

    private static EqualityLab made(State state) {
        EqualityLab x = new EqualityLab();
        for (int[] call : state.calls) {
            if (answer(x, call) == R) {
                wrong("making state " + state.name + ", " + text(call) + " was refused");
            }
        }
        return x;
    }

    // What the states say of themselves decides which calls must be refused, so it is looked at first.
    private static void checkCounts(State state) {
        EqualityLab x = made(state);
        if (x.clear(1) != state.clauses || x.clear(2) != state.stack || x.clear(0) != state.terms) {
            wrong("state " + state.name + " is not as told");
        }
        x = made(state);
        if (x.holds(2 * state.atoms) != R || (state.atoms > 0 && x.holds(2 * state.atoms - 1) == R)) {
            wrong("state " + state.name + " has not the atoms that are told");
        }
    }

    // ---- calls

    private static int[] wrongFrom(int first) {
        return new int[] {-1, -2, -256, MIN, MIN + 1, first, first + 1, first + 16, first + 256, 65536, MAX - 1, MAX};
    }

    private static List<int[]> refusedCalls(State s) {
        List<int[]> calls = new ArrayList<>();
        for (int t : wrongFrom(s.terms)) {
            refusedForTerm(calls, t);
        }
        for (int literal : wrongFrom(2 * s.atoms)) {
            refusedForLiteral(calls, literal);
        }
        for (int kind : wrongFrom(4)) {
            calls.add(new int[] {TERM, kind, 0, 0});
        }
        for (int what : wrongFrom(3)) {
            calls.add(new int[] {CLEAR, what});
        }
        for (int what : wrongFrom(2)) {
            calls.add(new int[] {CLASSES, what});
        }
        int models = made(s).models();
        for (int k : wrongFrom(models)) {
            calls.add(new int[] {MODEL, k});
        }
        calls.add(new int[] {CLAUSE, -1, -1, -1});
        if (s.stack == 0) {
            calls.add(new int[] {POP});
        }
        refusedAtLimits(calls, s);
        return calls;
    }

    private static void refusedForTerm(List<int[]> calls, int t) {
        calls.add(new int[] {TERM, 1, t, 0});
        calls.add(new int[] {TERM, 3, t, 0});
        calls.add(new int[] {TERM, 2, t, 0});
        calls.add(new int[] {TERM, 2, 0, t});
        int[] pairs = {ATOM, ONE, WHY};
        for (int name : pairs) {
            calls.add(new int[] {name, t, 0});
            calls.add(new int[] {name, 0, t});
            calls.add(new int[] {name, t, t});
        }
        calls.add(new int[] {LEAST, t});
    }

    private static void refusedForLiteral(List<int[]> calls, int literal) {
        calls.add(new int[] {PUSH, literal});
        calls.add(new int[] {HOLDS, literal});
        if (literal != -1) {
            calls.add(new int[] {CLAUSE, literal, -1, -1});
            calls.add(new int[] {CLAUSE, 0, literal, -1});
            calls.add(new int[] {CLAUSE, 1, 0, literal});
        }
    }

    private static void refusedAtLimits(List<int[]> calls, State s) {
        if (s.terms == 16) {
            for (int kind = 0; kind < 4; kind++) {
                calls.add(new int[] {TERM, kind, 0, 1});
                calls.add(new int[] {TERM, kind, 15, 14});
            }
        }
        if (s.atoms == 8) {
            calls.add(new int[] {ATOM, 0, 1});
            calls.add(new int[] {ATOM, 15, 15});
        }
        if (s.clauses == 12) {
            calls.add(new int[] {CLAUSE, 0, -1, -1});
            calls.add(new int[] {CLAUSE, 15, 14, 13});
        }
        if (s.stack == 8) {
            calls.add(new int[] {PUSH, 0});
            calls.add(new int[] {PUSH, 15});
        }
    }

    private static List<int[]> questions(State s) {
        List<int[]> calls = new ArrayList<>();
        calls.add(new int[] {MODELS});
        calls.add(new int[] {MODEL, 0});
        calls.add(new int[] {BLAME});
        calls.add(new int[] {CLASSES, 0});
        calls.add(new int[] {CLASSES, 1});
        for (int literal = 0; literal < 2 * s.atoms; literal++) {
            calls.add(new int[] {HOLDS, literal});
        }
        for (int t = 0; t < s.terms; t++) {
            calls.add(new int[] {LEAST, t});
            calls.add(new int[] {ONE, t, s.terms - 1 - t});
            calls.add(new int[] {WHY, t, s.terms - 1 - t});
        }
        return calls;
    }

    // ---- what can be seen

    private static void compare(State state, int[] call, List<List<Integer>> due) {
        compared++;
        for (int probe = 0; probe < PROBES; probe++) {
            if (!seen(state, call, probe).equals(due.get(probe))) {
                wrong("in state " + state.name + " " + text(call) + " changes what probe " + probe + " sees");
            }
        }
    }

    // An object of its own for each probe, since some of them take the object apart and all must keep within its calls.
    private static List<Integer> seen(State state, int[] call, int probe) {
        EqualityLab x = made(state);
        if (call != null) {
            answer(x, call);
        }
        List<Integer> seen = new ArrayList<>();
        if (probe == 0) {
            askAll(x, seen);
        } else if (probe == 1) {
            askPairs(x, seen);
        } else if (probe == 2) {
            takeOff(x, seen);
        } else if (probe == 3) {
            putOn(x, seen);
        } else {
            fillUp(x, seen);
        }
        if (state.calls.size() + 1 + seen.size() > CALLS) {
            wrong("probe " + probe + " makes too many calls");
        }
        return seen;
    }

    private static void askAll(EqualityLab x, List<Integer> seen) {
        seen.add(x.models());
        for (int k = 0; k < 8; k++) {
            seen.add(x.model(k));
        }
        for (int what = 0; what < 2; what++) {
            seen.add(x.classes(what));
        }
        seen.add(x.blame());
        for (int n = 0; n < 16; n++) {
            seen.add(x.holds(n));
            seen.add(x.least(n));
        }
    }

    private static void askPairs(EqualityLab x, List<Integer> seen) {
        for (int t = 0; t < 16; t++) {
            for (int u = 0; u < t; u++) {
                seen.add(x.one(t, u));
                seen.add(x.why(t, u));
            }
        }
    }

    private static void takeOff(EqualityLab x, List<Integer> seen) {
        for (int place = 0; place < 9; place++) {
            seen.add(x.pop());
            seen.add(x.models());
            seen.add(x.blame());
            seen.add(x.classes(0));
            seen.add(x.model(0));
        }
        for (int what = 1; what < 4; what++) {
            seen.add(x.clear(what % 3));
            seen.add(x.models());
            seen.add(x.classes(1));
        }
    }

    private static void putOn(EqualityLab x, List<Integer> seen) {
        seen.add(x.term(0, 0, 0));
        seen.add(x.term(2, 0, 0));
        seen.add(x.atom(0, 1));
        seen.add(x.clause(1, -1, -1));
        seen.add(x.push(0));
        seen.add(x.why(0, 1));
        askAll(x, seen);
        seen.add(x.clear(2));
        askAll(x, seen);
        seen.add(x.clear(1));
        askAll(x, seen);
        seen.add(x.clear(0));
        askAll(x, seen);
    }

    private static void fillUp(EqualityLab x, List<Integer> seen) {
        for (int t = 0; t < 17; t++) {
            seen.add(x.term(t == 0 ? 0 : t % 4, 0, 0));
        }
        for (int a = 0; a < 9; a++) {
            seen.add(x.atom(a, 15));
        }
        for (int place = 0; place < 9; place++) {
            seen.add(x.push(2 * (place % 8)));
        }
        askAll(x, seen);
        for (int c = 0; c < 13; c++) {
            seen.add(x.clause(c, 15 - c, -1));
        }
        askAll(x, seen);
        seen.add(x.clear(1));
        seen.add(x.clear(2));
        seen.add(x.clear(0));
    }
}
