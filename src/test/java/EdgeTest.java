// One test for each sentence of the document that names a boundary case; the sentence stands in each message.
public final class EdgeTest {
    private static final int R = EqualityLab.REFUSED;
    private static final int N = EqualityLab.NONE;
    private static final int MIN = Integer.MIN_VALUE;
    private static final int MAX = Integer.MAX_VALUE;
    private static final int CALLS = 512;

    private static String sentence = "";
    private static String latestCall = "";
    private static int sentences = 0;
    private static int wrong = 0;

    // An object that tells its latest call, and that must not be used for more calls than the document allows.
    private static final class Lab {
        private final EqualityLab lab = new EqualityLab();
        private int calls = 0;

        private int told(int answer, String name, int... arguments) {
            StringBuilder text = new StringBuilder(name);
            for (int i = 0; i < arguments.length; i++) {
                text.append(i == 0 ? "(" : ", ").append(arguments[i]);
            }
            latestCall = text.append(arguments.length == 0 ? "()" : ")").toString();
            calls++;
            if (calls > CALLS) {
                wrong++;
                System.out.println(sentence + ": the test makes too many calls, at " + latestCall);
            }
            return answer;
        }

        int term(int kind, int a, int b) {
            return told(lab.term(kind, a, b), "term", kind, a, b);
        }

        int atom(int t, int u) {
            return told(lab.atom(t, u), "atom", t, u);
        }

        int clause(int l, int m, int n) {
            return told(lab.clause(l, m, n), "clause", l, m, n);
        }

        int push(int literal) {
            return told(lab.push(literal), "push", literal);
        }

        int pop() {
            return told(lab.pop(), "pop");
        }

        int clear(int what) {
            return told(lab.clear(what), "clear", what);
        }

        int models() {
            return told(lab.models(), "models");
        }

        int model(int k) {
            return told(lab.model(k), "model", k);
        }

        int holds(int literal) {
            return told(lab.holds(literal), "holds", literal);
        }

        int one(int t, int u) {
            return told(lab.one(t, u), "one", t, u);
        }

        int classes(int what) {
            return told(lab.classes(what), "classes", what);
        }

        int least(int t) {
            return told(lab.least(t), "least", t);
        }

        int why(int t, int u) {
            return told(lab.why(t, u), "why", t, u);
        }

        int blame() {
            return told(lab.blame(), "blame");
        }
    }

    private static void sentence(String words) {
        sentence = words;
        sentences++;
    }

    private static void due(int got, int want) {
        if (got != want) {
            wrong++;
            System.out.println(sentence + ": " + latestCall + " answered " + got + ", due is " + want);
        }
    }

    public static void main(String[] args) {
        whatItIs();
        terms();
        atoms();
        clauses();
        stack();
        following();
        ways();
        newObject();
        term();
        atom();
        clause();
        push();
        pop();
        clear();
        models();
        model();
        holds();
        one();
        classes();
        least();
        why();
        blame();
        orderAndLimits();
        System.out.println(sentences + " sentences: " + (wrong == 0 ? "all answers are as due" : wrong + " answers are not as due"));
        if (wrong != 0) {
            System.exit(1);
        }
    }

    // ---- objects in given states

    private static Lab withConstants(int count) {
        Lab x = new Lab();
        for (int t = 0; t < count; t++) {
            due(x.term(0, 0, 0), t);
        }
        return x;
    }

    // Constants 0 .. 2n-1 with the atoms 0 = 1, 2 = 3, ..., that say nothing about each other.
    private static Lab withFreeAtoms(int count) {
        Lab x = withConstants(2 * count);
        for (int a = 0; a < count; a++) {
            due(x.atom(2 * a, 2 * a + 1), a);
        }
        return x;
    }

    // Constants 0 .. n with the atoms 0 = 1, 1 = 2, ...
    private static Lab withChain(int count) {
        Lab x = withConstants(count + 1);
        for (int a = 0; a < count; a++) {
            due(x.atom(a, a + 1), a);
        }
        return x;
    }

    private static void pushAll(Lab x, int... literals) {
        for (int literal : literals) {
            if (x.push(literal) == R) {
                wrong++;
                System.out.println(sentence + ": " + latestCall + " was refused");
            }
        }
    }

    // Numbers below 0 and from first on, among them those that a mask or a narrow type would take for a good one.
    private static int[] wrongFrom(int first) {
        return new int[] {-1, -2, -16, -255, -256, -65536, MIN, MIN + 1, MIN + 2, first, first + 1, first + 16, first + 64,
            255 + first, 256, 257, 65536, 65537, 1 << 30, MAX - 1, MAX};
    }

    // ---- what it is, terms

    private static void whatItIs() {
        sentence("What it is: an object is used for at most 512 calls: the last of them is as good as the first");
        Lab x = withFreeAtoms(2);
        due(x.clause(0, 2, -1), 0);
        while (x.calls < CALLS - 3) {
            due(x.push(1), 1);
            due(x.pop(), 1);
        }
        due(x.push(1), 1);
        due(x.models(), 1);
        while (x.calls < CALLS) {
            due(x.model(0), 2);
        }
        due(x.calls, CALLS);

        sentence("What it is: 512 calls, all of them refused but the last");
        Lab y = new Lab();
        while (y.calls < CALLS - 1) {
            due(y.pop(), R);
        }
        due(y.models(), 1);
    }

    private static void terms() {
        sentence("Terms: TERMS 0 .. 15");
        Lab x = withConstants(15);
        due(x.least(14), 14);
        due(x.least(15), R);
        due(x.term(0, 0, 0), 15);
        due(x.least(0), 0);
        due(x.least(15), 15);
        due(x.least(16), R);
        due(x.least(-1), R);
        due(x.one(15, 15), 1);
        due(x.one(15, 16), R);
        due(x.why(15, 0), N);
        due(x.why(16, 0), R);
        due(x.atom(15, 0), 0);
        due(x.atom(16, 0), R);
        due(x.classes(1), 16);
        due(x.push(0), 1);
        due(x.least(15), 0);
        due(x.why(15, 0), 1);
        due(x.term(0, 0, 0), R);

        sentence("Terms: F or H of one, or G of two terms made before");
        Lab y = withConstants(1);
        due(y.term(1, 1, 0), R);
        due(y.term(3, 1, 0), R);
        due(y.term(2, 1, 0), R);
        due(y.term(2, 0, 1), R);
        due(y.term(2, 1, 1), R);
        due(y.term(1, 0, 0), 1);
        due(y.term(3, 1, 0), 2);
        due(y.term(2, 2, 2), 3);
        due(y.term(2, 3, 0), 4);
        due(y.term(2, 0, 4), 5);
        due(y.classes(0), 6);

        sentence("Terms: the last term may be of the one before, and of itself never");
        Lab z = withConstants(15);
        due(z.term(1, 15, 0), R);
        due(z.term(2, 15, 14), R);
        due(z.term(2, 14, 15), R);
        due(z.term(3, 15, 0), R);
        due(z.term(2, 14, 14), 15);
        due(z.least(15), 15);
    }

    private static void atoms() {
        sentence("Terms: ATOMS 0 .. 7");
        Lab x = withFreeAtoms(7);
        due(x.holds(13), 2);
        due(x.holds(14), R);
        due(x.atom(12, 0), 7);
        due(x.holds(0), 2);
        due(x.holds(14), 2);
        due(x.holds(15), 2);
        due(x.holds(16), R);
        due(x.holds(-1), R);
        due(x.models(), 256);
        due(x.atom(0, 1), R);

        sentence("Terms: equalities of two terms (that may be the same)");
        Lab y = withConstants(16);
        due(y.atom(0, 0), 0);
        due(y.models(), 1);
        due(y.model(0), 1);
        due(y.holds(0), 1);
        due(y.holds(1), 0);
        due(y.atom(15, 15), 1);
        due(y.model(0), 3);
        due(y.push(3), 1);
        due(y.models(), 0);
        due(y.blame(), 1);

        sentence("Terms: equalities of two terms (that may be the same), all eight of them");
        Lab z = withConstants(1);
        for (int a = 0; a < 8; a++) {
            due(z.atom(0, 0), a);
        }
        due(z.models(), 1);
        due(z.model(0), 255);

        sentence("Terms: a LITERAL is 2 a for atom a, 2 a + 1 for its opposite");
        Lab w = withFreeAtoms(8);
        for (int a = 0; a < 8; a++) {
            due(w.push(2 * a), 1);
            due(w.models(), 128);
            due(w.model(0), 1 << a);
            due(w.why(2 * a, 2 * a + 1), 1);
            due(w.pop(), 2 * a);
            due(w.push(2 * a + 1), 1);
            due(w.models(), 128);
            due(w.model(127), 255 - (1 << a));
            due(w.why(2 * a, 2 * a + 1), N);
            due(w.pop(), 2 * a + 1);
        }
    }

    private static void clauses() {
        sentence("Terms: CLAUSES 0 .. 11");
        Lab x = withFreeAtoms(1);
        for (int c = 0; c < 11; c++) {
            due(x.clause(0, 1, -1), c);
        }
        due(x.models(), 2);
        due(x.clause(1, -1, -1), 11);
        due(x.models(), 1);
        due(x.model(0), 0);
        due(x.clause(0, -1, -1), R);
        due(x.models(), 1);
        due(x.clear(1), 12);

        sentence("Terms: clauses of one literal, at each of the three places");
        int[][] single = {{0, -1, -1}, {-1, 0, -1}, {-1, -1, 0}};
        for (int[] c : single) {
            Lab y = withFreeAtoms(2);
            due(y.clause(c[0], c[1], c[2]), 0);
            due(y.models(), 2);
            due(y.model(0), 1);
            due(y.model(1), 3);
        }

        sentence("Terms: clauses of two literals, at each two of the three places");
        int[][] two = {{0, 3, -1}, {0, -1, 3}, {-1, 0, 3}, {3, 0, -1}};
        for (int[] c : two) {
            Lab y = withFreeAtoms(2);
            due(y.clause(c[0], c[1], c[2]), 0);
            due(y.models(), 3);
            due(y.model(0), 0);
            due(y.model(1), 1);
            due(y.model(2), 3);
        }

        sentence("Terms: clauses of three literals");
        Lab z = withFreeAtoms(3);
        due(z.clause(0, 3, 4), 0);
        due(z.models(), 7);
        due(z.model(1), 1);
        due(z.model(2), 3);
        due(z.model(6), 7);

        sentence("Terms: clauses of one to three literals, that may be the same or opposites");
        Lab w = withFreeAtoms(1);
        due(w.clause(0, 1, -1), 0);
        due(w.clause(1, 0, 1), 1);
        due(w.models(), 2);
        due(w.clause(1, 1, 1), 2);
        due(w.models(), 1);
        due(w.model(0), 0);
    }

    private static void stack() {
        sentence("Terms: THE STACK: at most 8 literals");
        Lab x = withFreeAtoms(8);
        for (int place = 0; place < 7; place++) {
            due(x.push(2 * place + 1), place + 1);
        }
        due(x.models(), 2);
        due(x.push(15), 8);
        due(x.models(), 1);
        due(x.push(15), R);
        due(x.push(0), R);
        due(x.models(), 1);
        for (int place = 7; place >= 0; place--) {
            due(x.pop(), 2 * place + 1);
        }
        due(x.pop(), R);

        sentence("Terms: the stack may hold the same literal in all its places");
        Lab y = withFreeAtoms(1);
        for (int place = 0; place < 8; place++) {
            due(y.push(0), place + 1);
        }
        due(y.push(0), R);
        due(y.models(), 1);
        due(y.clear(2), 8);
    }

    private static void following() {
        sentence("Terms: each term equals itself");
        Lab x = withConstants(2);
        due(x.one(0, 0), 1);
        due(x.why(1, 1), 0);
        due(x.one(0, 1), 0);

        sentence("Terms: what equals the same is equal");
        Lab y = withConstants(3);
        due(y.atom(0, 2), 0);
        due(y.atom(1, 2), 1);
        pushAll(y, 0, 2);
        due(y.one(0, 1), 1);
        due(y.why(1, 0), 3);

        sentence("Terms: F, H, G of equal terms (in the same places) are equal");
        Lab z = withConstants(2);
        int[][] parts = {{1, 0, 0}, {1, 1, 0}, {3, 0, 0}, {3, 1, 0}, {2, 0, 0}, {2, 0, 1}, {2, 1, 0}, {2, 1, 1}};
        for (int i = 0; i < parts.length; i++) {
            due(z.term(parts[i][0], parts[i][1], parts[i][2]), i + 2);
        }
        due(z.atom(0, 1), 0);
        due(z.classes(0), 4);
        due(z.classes(1), 10);
        due(z.push(0), 1);
        due(z.least(3), 2);
        due(z.least(5), 4);
        due(z.least(7), 6);
        due(z.least(8), 6);
        due(z.least(9), 6);
        due(z.one(2, 4), 0);
        due(z.one(2, 6), 0);

        sentence("Terms: G in other places, and F for H, do not follow");
        Lab w = withConstants(4);
        due(w.term(2, 0, 1), 4);
        due(w.term(2, 3, 2), 5);
        due(w.term(2, 2, 3), 6);
        due(w.term(1, 0, 0), 7);
        due(w.term(3, 2, 0), 8);
        due(w.atom(0, 2), 0);
        due(w.atom(1, 3), 1);
        pushAll(w, 0, 2);
        due(w.least(5), 5);
        due(w.least(6), 4);
        due(w.least(8), 8);
        due(w.why(4, 6), 3);
        due(w.why(4, 5), N);

        sentence("Terms: F, H, G of terms that are not equal are not, whichever of them was made first");
        Lab d = withConstants(2);
        int[][] apart = {{1, 1, 0}, {1, 0, 0}, {3, 0, 0}, {3, 1, 0}, {2, 1, 1}, {2, 0, 1}, {2, 1, 0}, {2, 0, 0}};
        for (int i = 0; i < apart.length; i++) {
            due(d.term(apart[i][0], apart[i][1], apart[i][2]), i + 2);
            due(d.least(i + 2), i + 2);
        }
        due(d.classes(0), 10);

        sentence("Terms: what follows may follow from what followed, against the order of the terms");
        Lab c = withConstants(4);
        due(c.term(1, 0, 0), 4);
        due(c.term(1, 1, 0), 5);
        due(c.term(1, 2, 0), 6);
        due(c.term(1, 3, 0), 7);
        due(c.atom(2, 3), 0);
        due(c.atom(0, 6), 1);
        due(c.atom(1, 7), 2);
        pushAll(c, 0, 2, 4);
        due(c.least(7), 0);
        due(c.least(5), 4);
        due(c.why(4, 5), 7);
        due(c.one(5, 4), 1);
        due(c.classes(0), 3);

        sentence("Terms: whatever F gives: from F of two terms being equal nothing follows for the two");
        Lab v = withConstants(2);
        due(v.term(1, 0, 0), 2);
        due(v.term(1, 1, 0), 3);
        due(v.atom(2, 3), 0);
        due(v.push(0), 1);
        due(v.one(0, 1), 0);
        due(v.why(0, 1), N);
        due(v.least(1), 1);
    }

    private static void ways() {
        sentence("Terms: a way is the sum of 2^a for those that do: of none 0, of all 255");
        Lab x = withFreeAtoms(8);
        due(x.model(0), 0);
        due(x.model(255), 255);
        for (int a = 0; a < 8; a++) {
            due(x.model(1 << a), 1 << a);
        }

        sentence("Terms: a way is possible if from the atoms that hold none follows that doesn't");
        Lab y = withChain(2);
        due(y.models(), 4);
        due(y.atom(0, 2), 2);
        due(y.models(), 5);
        due(y.model(3), 4);
        due(y.model(4), 7);
        due(y.atom(0, 2), 3);
        due(y.models(), 5);
        due(y.model(3), 12);
        due(y.model(4), 15);

        sentence("Terms: a model has at least one literal of each clause, and all of the stack");
        Lab z = withFreeAtoms(3);
        due(z.clause(0, 2, -1), 0);
        due(z.models(), 6);
        due(z.clause(1, 3, -1), 1);
        due(z.models(), 4);
        due(z.push(4), 1);
        due(z.models(), 2);
        due(z.push(1), 2);
        due(z.models(), 1);
        due(z.model(0), 6);
        due(z.push(3), 3);
        due(z.models(), 0);
    }

    // ---- promise 1

    private static void newObject() {
        sentence("Promise 1: no terms");
        for (int kind = 1; kind < 4; kind++) {
            due(new Lab().term(kind, 0, 0), R);
        }
        due(new Lab().term(0, 0, 0), 0);
        due(new Lab().atom(0, 0), R);
        due(new Lab().one(0, 0), R);
        due(new Lab().least(0), R);
        due(new Lab().why(0, 0), R);
        due(new Lab().classes(0), 0);
        due(new Lab().classes(1), 0);
        due(new Lab().clear(0), 0);

        sentence("Promise 1: no atoms");
        for (int literal = 0; literal < 2; literal++) {
            due(new Lab().push(literal), R);
            due(new Lab().holds(literal), R);
            due(new Lab().clause(literal, -1, -1), R);
            due(new Lab().clause(-1, literal, -1), R);
            due(new Lab().clause(-1, -1, literal), R);
        }
        due(new Lab().models(), 1);
        due(new Lab().model(0), 0);
        due(new Lab().model(1), R);

        sentence("Promise 1: no clauses");
        due(new Lab().clear(1), 0);
        due(new Lab().clause(-1, -1, -1), R);

        sentence("Promise 1: the stack is empty");
        due(new Lab().pop(), R);
        due(new Lab().clear(2), 0);
        due(new Lab().blame(), N);

        sentence("Promise 1: nothing is there under any wrong number");
        Lab x = new Lab();
        for (int n : wrongFrom(0)) {
            due(x.term(1, n, n), R);
            due(x.atom(n, n), R);
            due(x.clause(n, n, n), R);
            due(x.push(n), R);
            due(x.holds(n), R);
            due(x.one(n, n), R);
            due(x.least(n), R);
            due(x.why(n, n), R);
        }
        due(x.models(), 1);
        due(x.clear(0), 0);

        sentence("Promise 1: a new object is not changed by what another one holds");
        Lab other = withFreeAtoms(2);
        pushAll(other, 0, 1);
        Lab fresh = new Lab();
        due(fresh.pop(), R);
        due(fresh.models(), 1);
        due(other.models(), 0);
        due(fresh.term(0, 0, 0), 0);
        due(other.term(0, 0, 0), 4);
    }

    // ---- promise 2

    private static void term() {
        termLooksAtWhatIsNamed();
        termLimits();
        termParts();
    }

    private static void termLooksAtWhatIsNamed() {
        sentence("Promise 2: what is not named is not looked at: a and b of a constant");
        Lab x = new Lab();
        int[] any = {0, -1, -2, 1, 15, 16, 17, MIN, MAX};
        for (int i = 0; i < any.length; i++) {
            due(x.term(0, any[i], any[any.length - 1 - i]), i);
        }
        due(x.classes(0), any.length);

        sentence("Promise 2: what is not named is not looked at: b of F and of H");
        for (int kind = 1; kind < 4; kind += 2) {
            Lab y = withConstants(2);
            for (int i = 0; i < any.length; i++) {
                due(y.term(kind, 0, any[i]), i + 2);
                due(y.least(i + 2), 2);
            }
            due(y.term(kind, 1, 0), 11);
            due(y.least(11), 11);
            due(y.classes(0), 4);
        }

        sentence("Promise 2: what is not named is not looked at: constants are of no term, whatever a and b say");
        Lab z = withConstants(2);
        due(z.term(0, 0, 0), 2);
        due(z.term(0, 0, 0), 3);
        due(z.term(0, 1, 1), 4);
        due(z.atom(0, 1), 0);
        due(z.push(0), 1);
        due(z.least(3), 3);
        due(z.least(4), 4);
        due(z.why(3, 4), N);

        sentence("Promise 2: what is named is looked at: b of G");
        Lab w = withConstants(2);
        due(w.term(2, 0, 0), 2);
        due(w.term(2, 0, 1), 3);
        due(w.term(2, 1, 0), 4);
        due(w.term(2, 0, 1), 5);
        due(w.least(3), 3);
        due(w.least(4), 4);
        due(w.least(5), 3);
    }

    private static void termLimits() {
        sentence("Promise 2: REFUSED if there are 16");
        for (int kind = 0; kind < 4; kind++) {
            Lab x = withConstants(15);
            due(x.term(kind, 14, 0), 15);
            for (int next = 0; next < 4; next++) {
                due(x.term(next, 0, 0), R);
            }
            due(x.clear(0), 16);
            due(x.term(0, 0, 0), 0);
        }

        sentence("Promise 2: REFUSED if a kind is not there");
        Lab y = withConstants(1);
        for (int kind : wrongFrom(4)) {
            due(y.term(kind, 0, 0), R);
        }
        due(y.term(3, 0, 0), 1);
        due(y.term(0, 0, 0), 2);
        due(y.clear(0), 3);
    }

    private static void termParts() {
        for (int count = 0; count < 16; count += 5) {
            sentence("Promise 2: REFUSED if a term is not there, of " + count);
            Lab x = withConstants(count);
            for (int t : wrongFrom(count)) {
                due(x.term(1, t, 0), R);
                due(x.term(3, t, 0), R);
                due(x.term(2, t, 0), R);
                due(x.term(2, 0, t), R);
                due(x.term(2, t, t), R);
            }
            due(x.classes(0), count);
            if (count > 0 && count < 15) {
                due(x.term(1, count - 1, 0), count);
                due(x.term(3, count, 0), count + 1);
                due(x.term(2, count + 1, 0), count + 2);
                due(x.term(2, 0, count + 2), count + 3);
            }
        }
    }

    // ---- promise 3

    private static void atom() {
        sentence("Promise 3: REFUSED if there are 8");
        Lab x = withConstants(16);
        for (int a = 0; a < 8; a++) {
            due(x.atom(a, a + 8), a);
        }
        due(x.atom(0, 8), R);
        due(x.atom(0, 0), R);
        due(x.atom(0, 1), R);
        due(x.models(), 256);
        due(x.one(0, 1), 0);
        due(x.holds(16), R);
        due(x.clear(0), 16);
        due(x.term(0, 0, 0), 0);
        due(x.atom(0, 0), 0);

        for (int count = 0; count < 17; count += 4) {
            sentence("Promise 3: REFUSED if a term is not there, of " + count);
            Lab y = withConstants(count);
            for (int t : wrongFrom(count)) {
                due(y.atom(t, 0), R);
                due(y.atom(0, t), R);
                due(y.atom(t, t), R);
            }
            due(y.models(), 1);
            due(y.push(0), R);
            if (count > 0) {
                due(y.atom(count - 1, 0), 0);
                due(y.atom(0, count - 1), 1);
                due(y.atom(count - 1, count - 1), 2);
                due(y.model(0), 4);
                due(y.model(1), 7);
            }
        }
    }

    // ---- promise 4

    private static void clause() {
        sentence("Promise 4: of the literals that are not -1");
        Lab x = withFreeAtoms(3);
        due(x.clause(-1, 4, -1), 0);
        due(x.models(), 4);
        due(x.model(0), 4);
        due(x.clause(-1, 1, 3), 1);
        due(x.models(), 3);
        due(x.clause(2, -1, 0), 2);
        due(x.models(), 2);
        due(x.model(0), 5);
        due(x.model(1), 6);

        sentence("Promise 4: REFUSED if there are 12");
        Lab y = withFreeAtoms(2);
        for (int c = 0; c < 12; c++) {
            due(y.clause(0, 2, -1), c);
        }
        due(y.clause(1, -1, -1), R);
        due(y.clause(-1, -1, -1), R);
        due(y.clause(0, 1, 2), R);
        due(y.models(), 3);
        due(y.clear(1), 12);
        due(y.models(), 4);
        due(y.clause(1, -1, -1), 0);
        due(y.models(), 2);

        sentence("Promise 4: REFUSED if all are -1");
        Lab z = withFreeAtoms(1);
        due(z.clause(-1, -1, -1), R);
        due(z.models(), 2);
        due(z.clear(1), 0);
        due(z.clause(-1, -1, 0), 0);
        due(z.clause(-1, -1, -1), R);
        due(z.models(), 1);
        due(z.clear(1), 1);

        clauseLiterals();
    }

    private static void clauseLiterals() {
        for (int count = 0; count < 9; count += 2) {
            sentence("Promise 4: REFUSED if a literal of no atom is among them, of " + count + " atoms");
            Lab x = withFreeAtoms(count);
            for (int l : wrongFrom(2 * count)) {
                if (l != -1) {
                    due(x.clause(l, -1, -1), R);
                    due(x.clause(-1, l, -1), R);
                    due(x.clause(-1, -1, l), R);
                    due(x.clause(l, 0, 1), R);
                    due(x.clause(0, l, 1), R);
                    due(x.clause(0, 1, l), R);
                    due(x.clause(l, l, l), R);
                }
            }
            due(x.clear(1), 0);
            due(x.models(), 1 << count);
            if (count > 0) {
                due(x.clause(2 * count - 1, -1, -1), 0);
                due(x.clause(-1, 2 * count - 1, 0), 1);
                due(x.models(), 1 << (count - 1));
            }
        }
    }

    // ---- promises 5 and 6

    private static void push() {
        for (int count = 0; count < 9; count += 2) {
            sentence("Promise 5: REFUSED if it is of no atom, of " + count + " atoms");
            Lab x = withFreeAtoms(count);
            for (int l : wrongFrom(2 * count)) {
                due(x.push(l), R);
            }
            due(x.clear(2), 0);
            if (count > 0) {
                due(x.push(0), 1);
                due(x.push(2 * count - 1), 2);
                due(x.push(2 * count), R);
                due(x.pop(), 2 * count - 1);
                due(x.pop(), 0);
            }
        }

        sentence("Promise 5: REFUSED if there are 8");
        Lab y = withFreeAtoms(8);
        for (int place = 0; place < 8; place++) {
            due(y.push(0), place + 1);
        }
        for (int literal = 0; literal < 16; literal++) {
            due(y.push(literal), R);
        }
        due(y.push(16), R);
        due(y.push(-1), R);
        due(y.models(), 128);
        due(y.pop(), 0);
        due(y.push(3), 8);
        due(y.push(3), R);
        due(y.models(), 64);
        due(y.pop(), 3);

        sentence("Promise 5: how many lie there");
        Lab z = withFreeAtoms(1);
        due(z.push(0), 1);
        due(z.push(0), 2);
        due(z.pop(), 0);
        due(z.push(1), 2);
        due(z.clear(2), 2);
        due(z.push(1), 1);
    }

    private static void pop() {
        sentence("Promise 6: takes the latest one off: it");
        Lab x = withFreeAtoms(8);
        int[] literals = {15, 0, 7, 7, 8, 1, 14, 0};
        for (int place = 0; place < 8; place++) {
            due(x.push(literals[place]), place + 1);
        }
        for (int place = 7; place >= 0; place--) {
            due(x.pop(), literals[place]);
        }
        due(x.models(), 256);

        sentence("Promise 6: REFUSED if there is none");
        due(x.pop(), R);
        due(x.pop(), R);
        due(x.models(), 256);
        due(x.push(0), 1);
        due(x.why(0, 1), 1);
        due(x.pop(), 0);
        due(x.pop(), R);
        pushAll(x, 2, 3, 4);
        due(x.clear(2), 3);
        due(x.pop(), R);
        pushAll(x, 2, 3, 4);
        due(x.clear(0), 16);
        due(x.pop(), R);
    }

    // ---- promise 7

    // Terms 0 .. 3, atoms 0 = 1 and 2 = 3, two clauses, three on the stack.
    private static Lab toBeCleared() {
        Lab x = withFreeAtoms(2);
        due(x.clause(0, -1, -1), 0);
        due(x.clause(0, 3, -1), 1);
        due(x.push(2), 1);
        due(x.push(2), 2);
        due(x.push(0), 3);
        return x;
    }

    private static void clear() {
        sentence("Promise 7: all terms, atoms, clauses go, and the stack is empty (what 0): of what 0: terms");
        Lab x = toBeCleared();
        due(x.clear(0), 4);
        due(x.pop(), R);
        due(x.clear(2), 0);
        due(x.clear(1), 0);
        due(x.holds(0), R);
        due(x.push(0), R);
        due(x.least(0), R);
        due(x.classes(1), 0);
        due(x.models(), 1);
        due(x.model(0), 0);
        due(x.blame(), N);
        due(x.clear(0), 0);
        due(x.term(0, 0, 0), 0);
        due(x.atom(0, 0), 0);
        due(x.clause(0, -1, -1), 0);
        due(x.push(0), 1);
        due(x.clear(0), 1);

        sentence("Promise 7: what 0 of a full object, and it can be filled again");
        Lab full = withFreeAtoms(8);
        for (int round = 0; round < 3; round++) {
            for (int i = 0; i < 12; i++) {
                due(full.clause(15, -1, -1), i);
            }
            for (int i = 0; i < 8; i++) {
                due(full.push(15), i + 1);
            }
            due(full.models(), 128);
            due(full.clear(0), 16);
            due(full.models(), 1);
            for (int i = 0; i < 16; i++) {
                due(full.term(0, 0, 0), i);
            }
            for (int i = 0; i < 8; i++) {
                due(full.atom(i, 15 - i), i);
            }
            due(full.models(), 256);
        }

        clearOneKind();
        clearOfNothingElse();
    }

    private static void clearOneKind() {
        sentence("Promise 7: or just all clauses (1): how many went");
        Lab x = toBeCleared();
        due(x.clause(3, -1, -1), 2);
        due(x.models(), 0);
        due(x.clear(1), 3);
        due(x.models(), 1);
        due(x.model(0), 3);
        due(x.clear(1), 0);
        due(x.why(0, 1), 4);
        due(x.pop(), 0);
        due(x.models(), 2);
        due(x.pop(), 2);
        due(x.pop(), 2);
        due(x.pop(), R);
        due(x.models(), 4);
        due(x.classes(1), 4);
        due(x.clause(1, -1, -1), 0);
        due(x.models(), 2);

        sentence("Promise 7: or just what lies on the stack (2): how many went");
        Lab y = toBeCleared();
        due(y.models(), 1);
        due(y.clear(2), 3);
        due(y.pop(), R);
        due(y.models(), 2);
        due(y.model(0), 1);
        due(y.clear(2), 0);
        due(y.push(3), 1);
        due(y.models(), 1);
        due(y.classes(0), 3);
        due(y.clear(1), 2);
        due(y.models(), 2);
        due(y.clear(0), 4);
    }

    private static void clearOfNothingElse() {
        sentence("Promise 7: REFUSED for another what");
        Lab z = toBeCleared();
        for (int what : wrongFrom(3)) {
            due(z.clear(what), R);
        }
        due(z.models(), 1);
        due(z.clear(2), 3);
        due(z.clear(1), 2);
        due(z.clear(0), 4);
        Lab fresh = new Lab();
        due(fresh.clear(3), R);
        due(fresh.clear(-1), R);
    }

    // ---- promises 8 and 9

    private static void models() {
        sentence("Promise 8: how many models there are: without atoms one");
        due(new Lab().models(), 1);
        due(withConstants(16).models(), 1);

        sentence("Promise 8: how many models there are: none");
        Lab x = withFreeAtoms(1);
        pushAll(x, 0, 1);
        due(x.models(), 0);
        due(x.clear(2), 2);
        due(x.clause(0, -1, -1), 0);
        due(x.clause(1, -1, -1), 1);
        due(x.models(), 0);
        due(x.clear(1), 2);
        due(x.clause(0, -1, -1), 0);
        due(x.push(1), 1);
        due(x.models(), 0);

        sentence("Promise 8: how many models there are: none, since a term equals itself");
        Lab y = withConstants(1);
        due(y.atom(0, 0), 0);
        due(y.push(1), 1);
        due(y.models(), 0);
        due(y.pop(), 1);
        due(y.models(), 1);
        due(y.clause(1, -1, 1), 0);
        due(y.models(), 0);

        sentence("Promise 8: how many models there are: one, by a full stack");
        Lab z = withFreeAtoms(8);
        pushAll(z, 0, 3, 4, 7, 8, 11, 12, 15);
        due(z.models(), 1);
        due(z.model(0), 1 + 4 + 16 + 64);

        for (int count = 1; count < 9; count++) {
            sentence("Promise 8: how many models there are: all ways of " + count + " atoms");
            Lab w = withFreeAtoms(count);
            due(w.models(), 1 << count);
            due(w.model((1 << count) - 1), (1 << count) - 1);
            due(w.model(1 << count), R);
        }
    }

    private static void model() {
        sentence("Promise 9: model k, from the least (0) on");
        Lab x = withFreeAtoms(8);
        for (int k = 0; k < 256; k++) {
            due(x.model(k), k);
        }
        Lab y = withFreeAtoms(8);
        pushAll(y, 1, 14);
        for (int k = 0; k < 64; k++) {
            due(y.model(k), 128 + 2 * k);
        }
        due(y.model(64), R);

        sentence("Promise 9: REFUSED if there is none: of 256");
        for (int k : wrongFrom(256)) {
            due(x.model(k), R);
        }

        sentence("Promise 9: REFUSED if there is none: of one");
        Lab z = withConstants(2);
        due(z.model(0), 0);
        for (int k : wrongFrom(1)) {
            due(z.model(k), R);
        }

        sentence("Promise 9: REFUSED if there is none: of no models");
        Lab w = withFreeAtoms(1);
        pushAll(w, 0, 1);
        for (int k : wrongFrom(0)) {
            due(w.model(k), R);
        }

        sentence("Promise 9: REFUSED if there is none: k counts models and not ways");
        Lab v = withFreeAtoms(2);
        due(v.push(2), 1);
        due(v.model(0), 2);
        due(v.model(1), 3);
        due(v.model(2), R);
        due(v.model(3), R);
    }

    // ---- promises 10, 11 and 12

    private static void holds() {
        sentence("Promise 10: 1 if a literal holds in all models, 0 if its opposite does, 2 if in some but not all");
        Lab x = withFreeAtoms(8);
        for (int a = 0; a < 8; a++) {
            due(x.holds(2 * a), 2);
            due(x.holds(2 * a + 1), 2);
            due(x.push(2 * a + 1), 1);
            due(x.holds(2 * a), 0);
            due(x.holds(2 * a + 1), 1);
            due(x.clear(2), 1);
            due(x.push(2 * a), 1);
            due(x.holds(2 * a), 1);
            due(x.holds(2 * a + 1), 0);
            due(x.clear(2), 1);
        }

        sentence("Promise 10: the way in which no atom holds is a model like any other");
        Lab least = withFreeAtoms(1);
        due(least.holds(0), 2);
        due(least.holds(1), 2);
        due(least.one(0, 1), 2);
        due(least.push(1), 1);
        due(least.holds(0), 0);
        due(least.holds(1), 1);
        due(least.one(0, 1), 0);

        sentence("Promise 10: 2 if it holds in just one of many models, or in all but one");
        Lab y = withFreeAtoms(3);
        due(y.clause(1, 2, -1), 0);
        due(y.clause(1, 4, -1), 1);
        due(y.models(), 5);
        due(y.holds(0), 2);
        due(y.holds(1), 2);

        sentence("Promise 10: NONE if there is no model");
        Lab z = withFreeAtoms(8);
        pushAll(z, 6, 7);
        for (int literal = 0; literal < 16; literal++) {
            due(z.holds(literal), N);
        }
        due(z.pop(), 7);
        due(z.holds(6), 1);

        for (int count = 0; count < 9; count += 2) {
            sentence("Promise 10: REFUSED if it is of no atom, of " + count + " atoms");
            Lab w = withFreeAtoms(count);
            for (int literal : wrongFrom(2 * count)) {
                due(w.holds(literal), R);
            }
            if (count > 0) {
                due(w.holds(0), 2);
                due(w.holds(2 * count - 1), 2);
            }
        }
    }

    private static void one() {
        sentence("Promise 11: 1 if two terms are one in all models, 0 in none of them, 2 in some but not all");
        Lab x = withFreeAtoms(8);
        due(x.one(15, 15), 1);
        due(x.one(0, 15), 0);
        due(x.one(14, 15), 2);
        due(x.one(15, 14), 2);
        due(x.push(14), 1);
        due(x.one(14, 15), 1);
        due(x.push(1), 2);
        due(x.one(0, 1), 0);

        sentence("Promise 11: 2 if they are one in just one of many models, or in all but one");
        Lab y = withFreeAtoms(3);
        due(y.clause(1, 2, -1), 0);
        due(y.clause(1, 4, -1), 1);
        due(y.one(0, 1), 2);
        Lab z = withChain(2);
        due(z.clause(0, 2, -1), 0);
        due(z.models(), 3);
        due(z.one(0, 2), 2);
        due(z.one(0, 1), 2);

        sentence("Promise 11: NONE if there is no model");
        Lab w = withFreeAtoms(8);
        pushAll(w, 0, 1);
        due(w.one(0, 1), N);
        due(w.one(0, 0), N);
        due(w.one(15, 15), N);
        due(w.one(2, 15), N);

        for (int count = 0; count < 17; count += 4) {
            sentence("Promise 11: REFUSED if one is not there, of " + count + " terms");
            Lab v = withConstants(count);
            for (int t : wrongFrom(count)) {
                due(v.one(t, 0), R);
                due(v.one(0, t), R);
                due(v.one(t, t), R);
            }
            if (count > 0) {
                due(v.one(count - 1, 0), 0);
                due(v.one(count - 1, count - 1), 1);
            }
        }
    }

    private static void classes() {
        sentence("Promise 12: the least (what 0) or greatest (1) number of classes");
        Lab x = withFreeAtoms(8);
        due(x.classes(0), 8);
        due(x.classes(1), 16);
        due(x.push(0), 1);
        due(x.classes(0), 8);
        due(x.classes(1), 15);
        due(x.push(3), 2);
        due(x.classes(0), 9);
        due(x.classes(1), 15);

        sentence("Promise 12: without terms no class, with one term one");
        due(new Lab().classes(0), 0);
        due(new Lab().classes(1), 0);
        due(withConstants(1).classes(0), 1);
        due(withConstants(1).classes(1), 1);

        sentence("Promise 12: all sixteen terms in one class");
        Lab y = withConstants(1);
        for (int t = 1; t < 16; t++) {
            due(y.term(1, t - 1, 0), t);
        }
        due(y.atom(0, 1), 0);
        due(y.classes(0), 1);
        due(y.classes(1), 16);

        sentence("Promise 12: NONE if there is no model");
        Lab z = withFreeAtoms(1);
        pushAll(z, 0, 1);
        due(z.classes(0), N);
        due(z.classes(1), N);
        due(z.pop(), 1);
        due(z.classes(0), 1);
        due(z.classes(1), 1);

        sentence("Promise 12: REFUSED for another what");
        for (int what : wrongFrom(2)) {
            due(z.classes(what), R);
            due(x.classes(what), R);
        }
        due(new Lab().classes(2), R);
        due(new Lab().classes(-1), R);
    }

    // ---- promise 13

    private static void least() {
        sentence("Promise 13: from the atoms on the stack (not the opposites): an empty stack");
        Lab x = withFreeAtoms(8);
        for (int t = 0; t < 16; t++) {
            due(x.least(t), t);
        }

        sentence("Promise 13: from the atoms on the stack (not the opposites): opposites alone");
        pushAll(x, 1, 3, 5, 7, 9, 11, 13, 15);
        for (int t = 0; t < 16; t++) {
            due(x.least(t), t);
        }

        sentence("Promise 13: from the atoms on the stack: a full one");
        due(x.clear(2), 8);
        pushAll(x, 14, 12, 10, 8, 6, 4, 2, 0);
        for (int t = 0; t < 16; t++) {
            due(x.least(t), t - t % 2);
        }
        Lab chain = withChain(8);
        pushAll(chain, 14, 12, 10, 8, 6, 4, 2);
        due(chain.least(8), 1);
        due(chain.least(0), 0);
        due(chain.push(0), 8);
        for (int t = 0; t < 9; t++) {
            due(chain.least(t), 0);
        }
        due(chain.pop(), 0);
        due(chain.least(8), 1);

        sentence("Promise 13: an atom and its opposite on the stack: the atom counts, the opposite does not");
        Lab y = withChain(2);
        pushAll(y, 0, 1, 3);
        due(y.models(), 0);
        due(y.least(1), 0);
        due(y.least(2), 2);

        sentence("Promise 13: from the atoms on the stack, not from the clauses");
        Lab z = withFreeAtoms(1);
        due(z.clause(0, -1, -1), 0);
        due(z.holds(0), 1);
        due(z.least(1), 1);

        for (int count = 0; count < 17; count += 4) {
            sentence("Promise 13: REFUSED if t is not there, of " + count + " terms");
            Lab w = withConstants(count);
            for (int t : wrongFrom(count)) {
                due(w.least(t), R);
            }
            if (count > 0) {
                due(w.least(count - 1), count - 1);
            }
        }
    }

    // ---- promise 14

    private static void why() {
        whyFewest();
        whyLeastSum();
        whyOfStacks();

        sentence("Promise 14: NONE if it does not follow");
        Lab x = withChain(3);
        due(x.why(0, 3), N);
        pushAll(x, 0, 4);
        due(x.why(0, 3), N);
        due(x.why(1, 2), N);
        due(x.push(3), 3);
        due(x.why(1, 2), N);
        due(x.push(2), 4);
        due(x.why(1, 2), 8);
        due(x.why(0, 3), 11);

        for (int count = 0; count < 17; count += 4) {
            sentence("Promise 14: REFUSED if a term is not there, of " + count + " terms");
            Lab w = withConstants(count);
            for (int t : wrongFrom(count)) {
                due(w.why(t, 0), R);
                due(w.why(0, t), R);
                due(w.why(t, t), R);
            }
            if (count > 0) {
                due(w.why(count - 1, 0), count == 1 ? 0 : N);
                due(w.why(count - 1, count - 1), 0);
            }
        }
    }

    private static void whyFewest() {
        sentence("Promise 14: the fewest, however great their sum");
        Lab x = withChain(4);
        due(x.atom(0, 2), 4);
        due(x.atom(2, 4), 5);
        due(x.atom(0, 4), 6);
        pushAll(x, 0, 2, 4, 6);
        due(x.why(0, 4), 15);
        due(x.push(8), 5);
        due(x.why(0, 4), 4 + 8 + 16);
        due(x.push(10), 6);
        due(x.why(4, 0), 16 + 32);
        due(x.push(13), 7);
        due(x.why(0, 4), 16 + 32);
        due(x.push(12), 8);
        due(x.why(0, 4), 128);
        due(x.why(0, 1), 1);
        due(x.why(1, 4), 2 + 32);

        sentence("Promise 14: the fewest are none if the terms are equal anyway");
        due(x.why(4, 4), 0);
        due(x.term(1, 0, 0), 5);
        due(x.term(1, 0, 3), 6);
        due(x.why(5, 6), 0);
    }

    private static void whyLeastSum() {
        sentence("Promise 14: of several such the least sum");
        // Two pairs lead from 0 to 3: the places of 0 = 1 = 3 and of 0 = 2 = 3.
        int[][] orders = {{0, 2, 4, 6, 3}, {0, 4, 6, 2, 6}, {0, 4, 2, 6, 5}, {4, 0, 6, 2, 5}, {4, 0, 2, 6, 6}, {4, 6, 0, 2, 3}};
        for (int[] order : orders) {
            Lab x = withConstants(4);
            due(x.atom(0, 1), 0);
            due(x.atom(1, 3), 1);
            due(x.atom(0, 2), 2);
            due(x.atom(2, 3), 3);
            pushAll(x, order[0], order[1], order[2], order[3]);
            due(x.why(0, 3), order[4]);
            due(x.why(3, 0), order[4]);
        }

        sentence("Promise 14: of several such the least sum: the same equality from two atoms");
        Lab y = withConstants(2);
        due(y.atom(0, 1), 0);
        due(y.atom(1, 0), 1);
        pushAll(y, 3, 2, 0);
        due(y.why(0, 1), 2);
        due(y.clear(2), 3);
        pushAll(y, 1, 3, 0, 2);
        due(y.why(0, 1), 4);
    }

    private static void whyOfStacks() {
        sentence("Promise 14: an empty stack");
        Lab x = withChain(8);
        due(x.why(0, 0), 0);
        due(x.why(8, 8), 0);
        due(x.why(0, 1), N);

        sentence("Promise 14: a full stack, all of which is needed");
        pushAll(x, 0, 2, 4, 6, 8, 10, 12, 14);
        due(x.why(0, 8), 255);
        due(x.why(8, 0), 255);
        due(x.why(0, 7), 127);
        due(x.why(7, 8), 128);
        due(x.why(3, 3), 0);

        sentence("Promise 14: the same literal on it more than once");
        due(x.clear(2), 8);
        pushAll(x, 2, 0, 2, 0, 2, 0, 2, 0);
        due(x.why(0, 1), 2);
        due(x.why(1, 2), 1);
        due(x.why(0, 2), 3);
        due(x.why(0, 3), N);
        due(x.clear(2), 8);
        pushAll(x, 0, 0, 0, 0, 0, 0, 0, 0);
        due(x.why(1, 0), 1);
        due(x.clear(2), 8);
        pushAll(x, 1, 1, 1, 1, 1, 1, 1, 1);
        due(x.why(1, 0), N);
        due(x.pop(), 1);
        due(x.push(0), 8);
        due(x.why(1, 0), 128);

        sentence("Promise 14: of those atoms on the stack, not the opposites nor the clauses");
        Lab y = withChain(2);
        due(y.clause(2, -1, -1), 0);
        pushAll(y, 1, 0, 1, 3);
        due(y.why(0, 1), 2);
        due(y.why(1, 2), N);
        due(y.why(0, 2), N);
    }

    // ---- promise 15

    private static void blame() {
        blameOfStacks();
        blameFewestAndLeastSum();

        sentence("Promise 15: NONE if there is such a way for all");
        Lab x = withChain(3);
        pushAll(x, 0, 3, 4);
        due(x.blame(), N);
        due(x.atom(0, 3), 3);
        due(x.push(7), 4);
        due(x.blame(), N);
        due(x.push(2), 5);
        due(x.blame(), 2 + 16);

        sentence("Promise 15: no possible way, whatever the clauses say");
        Lab y = withFreeAtoms(1);
        due(y.clause(0, -1, -1), 0);
        due(y.clause(1, -1, -1), 1);
        due(y.blame(), N);
        due(y.push(0), 1);
        due(y.blame(), N);
        due(y.push(1), 2);
        due(y.blame(), 3);
    }

    private static void blameOfStacks() {
        sentence("Promise 15: an empty stack");
        due(new Lab().blame(), N);
        Lab x = withChain(7);
        due(x.blame(), N);

        sentence("Promise 15: a full stack, with a way for all and with none");
        due(x.atom(0, 7), 7);
        pushAll(x, 0, 2, 4, 6, 8, 10, 12, 14);
        due(x.blame(), N);
        due(x.pop(), 14);
        due(x.push(15), 8);
        due(x.blame(), 255);
        due(x.clear(2), 8);
        pushAll(x, 1, 3, 5, 7, 9, 11, 13, 15);
        due(x.blame(), N);

        sentence("Promise 15: the same literal and its opposite on it");
        due(x.clear(2), 8);
        pushAll(x, 0, 1);
        due(x.blame(), 3);
        due(x.clear(2), 2);
        pushAll(x, 5, 2, 4);
        due(x.blame(), 5);
        due(x.clear(2), 3);
        pushAll(x, 5, 5, 5, 5, 5, 5, 5, 4);
        due(x.blame(), 129);
        due(x.clear(2), 8);
        pushAll(x, 1, 2, 4, 6, 8, 10, 12, 0);
        due(x.blame(), 129);

        sentence("Promise 15: the same literal more than once");
        due(x.clear(2), 8);
        pushAll(x, 0, 0, 0, 0, 0, 0, 0, 0);
        due(x.blame(), N);
        due(x.clear(2), 8);
        pushAll(x, 0, 0, 0, 1, 1, 1, 0, 1);
        due(x.blame(), 9);

        sentence("Promise 15: one literal alone that no way has");
        Lab y = withConstants(2);
        due(y.atom(1, 1), 0);
        due(y.atom(0, 1), 1);
        due(y.push(1), 1);
        due(y.blame(), 1);
        due(y.clear(2), 1);
        pushAll(y, 2, 3, 2, 3, 2, 3, 2, 1);
        due(y.blame(), 128);
    }

    private static void blameFewestAndLeastSum() {
        sentence("Promise 15: the fewest literals, however great their sum");
        Lab x = withChain(3);
        due(x.atom(0, 2), 3);
        due(x.atom(0, 3), 4);
        pushAll(x, 0, 2, 4, 9);
        due(x.blame(), 15);
        due(x.push(6), 5);
        due(x.blame(), 4 + 8 + 16);
        due(x.push(8), 6);
        due(x.blame(), 8 + 32);

        sentence("Promise 15: likewise: of several such the least sum");
        // Either 0 = 1 = 3 or 0 = 2 = 3 together with the opposite of 0 = 3.
        int[][] orders = {{0, 2, 4, 6, 3}, {0, 4, 6, 2, 6}, {0, 4, 2, 6, 5}, {4, 0, 6, 2, 5}, {4, 0, 2, 6, 6}, {4, 6, 0, 2, 3}};
        for (int[] order : orders) {
            Lab y = withConstants(4);
            due(y.atom(0, 1), 0);
            due(y.atom(1, 3), 1);
            due(y.atom(0, 2), 2);
            due(y.atom(2, 3), 3);
            due(y.atom(0, 3), 4);
            pushAll(y, order[0], order[1], order[2], order[3], 9);
            due(y.blame(), order[4] + 16);
            due(y.clear(2), 5);
            pushAll(y, 9, order[0], order[1], order[2], order[3]);
            due(y.blame(), 2 * order[4] + 1);
        }
    }

    // ---- promise 16

    private static void orderAndLimits() {
        refusedBeforeNone();
        placesFromZero();
    }

    private static void refusedBeforeNone() {
        sentence("Promise 16: holds: REFUSED is tested before NONE");
        Lab x = withFreeAtoms(4);
        pushAll(x, 0, 1);
        for (int literal : wrongFrom(8)) {
            due(x.holds(literal), R);
        }
        due(x.holds(7), N);
        due(x.holds(0), N);

        sentence("Promise 16: one: REFUSED is tested before NONE");
        for (int t : wrongFrom(8)) {
            due(x.one(t, 0), R);
            due(x.one(0, t), R);
            due(x.one(t, t), R);
        }
        due(x.one(7, 0), N);
        due(x.one(0, 7), N);

        sentence("Promise 16: classes: REFUSED is tested before NONE");
        for (int what : wrongFrom(2)) {
            due(x.classes(what), R);
        }
        due(x.classes(0), N);
        due(x.classes(1), N);

        sentence("Promise 16: why: REFUSED is tested before NONE");
        for (int t : wrongFrom(8)) {
            due(x.why(t, 0), R);
            due(x.why(0, t), R);
            due(x.why(t, t), R);
        }
        due(x.why(7, 0), N);
        due(x.why(0, 7), N);

        sentence("Promise 16: NONE is of no model: least, why and blame answer all the same");
        due(x.models(), 0);
        due(x.model(0), R);
        due(x.least(1), 0);
        due(x.why(0, 1), 1);
        due(x.why(7, 7), 0);
        due(x.blame(), 3);
    }

    private static void placesFromZero() {
        for (int place = 0; place < 8; place++) {
            sentence("Promise 16: places are counted from 0, the literal put there first at 0: place " + place);
            Lab x = withFreeAtoms(2);
            for (int i = 0; i < place; i++) {
                due(x.push(3), i + 1);
            }
            due(x.push(0), place + 1);
            for (int i = place + 1; i < 8; i++) {
                due(x.push(3), i + 1);
                due(x.blame(), N);
            }
            for (int i = 7; i > place; i--) {
                due(x.why(0, 1), 1 << place);
                due(x.pop(), 3);
            }
            due(x.why(0, 1), 1 << place);
            due(x.pop(), 0);
            due(x.why(0, 1), N);
        }

        sentence("Promise 16: places after pop and clear are counted from 0 again");
        Lab y = withFreeAtoms(3);
        pushAll(y, 0, 2, 4);
        due(y.why(4, 5), 4);
        due(y.pop(), 4);
        due(y.pop(), 2);
        due(y.push(4), 2);
        due(y.why(4, 5), 2);
        due(y.why(2, 3), N);
        due(y.why(0, 1), 1);
        due(y.clear(2), 2);
        due(y.push(4), 1);
        due(y.why(4, 5), 1);
        due(y.push(5), 2);
        due(y.blame(), 3);
    }
}
