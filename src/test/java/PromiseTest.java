// Each promise of the document by hand-made cases: ordinary inputs, named edges, wrong inputs.
public final class PromiseTest {
    private static final int R = EqualityLab.REFUSED;
    private static final int N = EqualityLab.NONE;
    private static final int MIN = Integer.MIN_VALUE;
    private static final int MAX = Integer.MAX_VALUE;
    private static int wrong = 0;

    private static void due(String call, int got, int want) {
        if (got != want) {
            wrong++;
            System.out.println(call + " answered " + got + ", due is " + want);
        }
    }

    public static void main(String[] args) {
        promise1NewObject();
        promise2Term();
        promise2TermParts();
        promise3Atom();
        promise4Clause();
        promise4ClauseMeaning();
        promise5Push();
        promise6Pop();
        promise7Clear();
        promise7ClearLeavesNothingBehind();
        promise8And9Models();
        promise8CongruenceRulesWaysOut();
        promise10Holds();
        promise11One();
        promise12Classes();
        promise13Least();
        promise14Why();
        promise14WhyPrefersFewestThenLeastSum();
        promise15Blame();
        promise15BlamePrefersFewestThenLeastSum();
        promise16RefusedBeforeNone();
        promise16RefusedChangesNothing();
        objectsAreApart();
        longChain();
        manyRounds();
        wholeStack();
        fullObject();
        exampleOfTheReadme();
        System.out.println(wrong == 0 ? "all answers are as due" : wrong + " answers are not as due");
        if (wrong != 0) {
            System.exit(1);
        }
    }

    private static EqualityLab withConstants(int count) {
        EqualityLab x = new EqualityLab();
        for (int i = 0; i < count; i++) {
            due("term(0) number " + i, x.term(0, 0, 0), i);
        }
        return x;
    }

    private static void promise1NewObject() {
        due("REFUSED", EqualityLab.REFUSED, -1);
        due("NONE", EqualityLab.NONE, -2);
        due("1 clear(0)", new EqualityLab().clear(0), 0);
        due("1 clear(1)", new EqualityLab().clear(1), 0);
        due("1 clear(2)", new EqualityLab().clear(2), 0);
        due("1 pop", new EqualityLab().pop(), R);
        due("1 models", new EqualityLab().models(), 1);
        due("1 model(0)", new EqualityLab().model(0), 0);
        due("1 model(1)", new EqualityLab().model(1), R);
        due("1 blame", new EqualityLab().blame(), N);
        due("1 classes(0)", new EqualityLab().classes(0), 0);
        due("1 classes(1)", new EqualityLab().classes(1), 0);
        due("1 atom", new EqualityLab().atom(0, 0), R);
        due("1 least", new EqualityLab().least(0), R);
        due("1 push", new EqualityLab().push(0), R);
        due("1 holds", new EqualityLab().holds(0), R);
        due("1 clause", new EqualityLab().clause(0, -1, -1), R);
        due("1 term number", new EqualityLab().term(0, 0, 0), 0);
    }

    private static void promise2Term() {
        EqualityLab x = new EqualityLab();
        int[] kinds = {-1, 4, MIN, MAX};
        for (int kind : kinds) {
            due("2 term kind " + kind, x.term(kind, 0, 0), R);
        }
        due("2 F of nothing", x.term(1, 0, 0), R);
        due("2 constant looks at nothing", x.term(0, MIN, MAX), 0);
        for (int kind : kinds) {
            due("2 term kind " + kind + " with a term", x.term(kind, 0, 0), R);
        }
        due("2 F of itself", x.term(1, 1, 0), R);
        due("2 F does not look at b", x.term(1, 0, MAX), 1);
        due("2 H does not look at b", x.term(3, 1, MIN), 2);
        due("2 G", x.term(2, 2, 1), 3);
        int[] absent = {-1, 4, 16, MIN, MAX};
        for (int t : absent) {
            due("2 F of " + t, x.term(1, t, 0), R);
            due("2 H of " + t, x.term(3, t, 0), R);
            due("2 G of a " + t, x.term(2, t, 0), R);
            due("2 G of b " + t, x.term(2, 0, t), R);
        }
        for (int i = 4; i < 16; i++) {
            due("2 term " + i, x.term(i % 4, i - 1, i - 2), i);
        }
        for (int kind = 0; kind < 4; kind++) {
            due("2 seventeenth of kind " + kind, x.term(kind, 0, 0), R);
        }
        due("2 sixteen terms", x.clear(0), 16);
    }

    private static void promise2TermParts() {
        EqualityLab x = withConstants(3);
        x.term(1, 0, 5);   // 3: F(0)
        x.term(1, 0, 9);   // 4: F(0) again
        x.term(3, 0, 0);   // 5: H(0)
        x.term(2, 0, 1);   // 6: G(0, 1)
        x.term(2, 1, 0);   // 7: G(1, 0)
        x.term(2, 0, 1);   // 8: G(0, 1) again
        x.term(2, 0, 2);   // 9: G(0, 2)
        x.term(2, 2, 1);   // 10: G(2, 1)
        due("2 F(0) is F(0)", x.least(4), 3);
        due("2 H is not F", x.least(5), 5);
        due("2 places of G count", x.least(7), 7);
        due("2 G(0,1) is G(0,1)", x.least(8), 6);
        due("2 G with another b", x.least(9), 9);
        due("2 G with another a", x.least(10), 10);
        due("2 constants differ", x.least(1), 1);
        due("2 classes", x.classes(0), 9);
    }

    private static void promise3Atom() {
        EqualityLab x = withConstants(2);
        int[] absent = {-1, 2, 15, 16, MIN, MAX};
        for (int t : absent) {
            due("3 atom(" + t + ", 0)", x.atom(t, 0), R);
            due("3 atom(0, " + t + ")", x.atom(0, t), R);
        }
        due("3 atom(0, 0)", x.atom(0, 0), 0);
        due("3 only one way with t = t", x.models(), 1);
        due("3 t = t holds", x.model(0), 1);
        for (int a = 1; a < 8; a++) {
            due("3 atom " + a, x.atom(0, 1), a);
        }
        due("3 ninth atom", x.atom(0, 1), R);
        due("3 equal atoms hold together", x.models(), 2);
        due("3 none of them", x.model(0), 1);
        due("3 all of them", x.model(1), 255);
    }

    private static void promise4Clause() {
        EqualityLab x = withConstants(4);
        x.atom(0, 1);
        x.atom(2, 3);
        due("4 all -1", x.clause(-1, -1, -1), R);
        int[] absent = {-2, 4, 5, 16, MIN, MAX};
        for (int l : absent) {
            due("4 clause first " + l, x.clause(l, 0, 0), R);
            due("4 clause second " + l, x.clause(0, l, -1), R);
            due("4 clause third " + l, x.clause(-1, 0, l), R);
            due("4 clause alone " + l, x.clause(-1, -1, l), R);
        }
        due("4 refused made none", x.clear(1), 0);
        int[][] good = {{0, -1, -1}, {-1, 1, -1}, {-1, -1, 2}, {3, 2, -1}, {0, -1, 3}, {-1, 1, 3}, {0, 0, 0}, {0, 1, 2}};
        for (int c = 0; c < 12; c++) {
            int[] g = good[c % good.length];
            due("4 clause " + c, x.clause(g[0], g[1], g[2]), c);
        }
        due("4 thirteenth", x.clause(0, -1, -1), R);
        due("4 twelve went", x.clear(1), 12);
        due("4 numbers begin again", x.clause(0, -1, -1), 0);
    }

    private static void promise4ClauseMeaning() {
        EqualityLab x = withConstants(6);
        x.atom(0, 1);
        x.atom(2, 3);
        x.atom(4, 5);
        due("4 free", x.models(), 8);
        x.clause(0, 2, 5);
        due("4 one way goes", x.models(), 7);
        due("4 the way of atom 2 alone goes", x.model(4), 5);
        x.clause(-1, 1, -1);
        due("4 unit in the middle", x.models(), 3);
        due("4 model 0", x.model(0), 0);
        due("4 model 1", x.model(1), 2);
        due("4 model 2", x.model(2), 6);
        x.clause(-1, -1, 4);
        due("4 unit at the end", x.models(), 1);
        due("4 the last way", x.model(0), 6);
        x.clause(5, -1, -1);
        due("4 no model", x.models(), 0);
        due("4 clauses are not on the stack", x.blame(), N);
        x.clear(1);
        due("4 free again", x.models(), 8);
        for (int c = 0; c < 11; c++) {
            x.clause(0, 1, -1);
        }
        due("4 true clauses rule nothing out", x.models(), 8);
        due("4 the twelfth", x.clause(3, -1, -1), 11);
        due("4 the twelfth is looked at", x.models(), 4);
    }

    private static void promise5Push() {
        EqualityLab x = withConstants(4);
        x.atom(0, 1);
        x.atom(2, 3);
        int[] absent = {-1, -2, 4, 5, MIN, MAX};
        for (int l : absent) {
            due("5 push(" + l + ")", x.push(l), R);
        }
        int[] literals = {0, 3, 0, 3, 0, 3, 0};
        for (int i = 0; i < literals.length; i++) {
            due("5 push number " + i, x.push(literals[i]), i + 1);
        }
        due("5 models", x.models(), 1);
        due("5 model", x.model(0), 1);
        due("5 the eighth", x.push(2), 8);
        due("5 the eighth is looked at", x.models(), 0);
        due("5 the ninth", x.push(0), R);
        due("5 eight went", x.clear(2), 8);
    }

    private static void promise6Pop() {
        EqualityLab x = withConstants(4);
        due("6 empty", x.pop(), R);
        x.atom(0, 1);
        x.atom(2, 3);
        x.push(3);
        x.push(0);
        x.push(2);
        due("6 latest", x.pop(), 2);
        due("6 before it", x.pop(), 0);
        due("6 the stack is 3 alone", x.models(), 2);
        due("6 put again", x.push(1), 2);
        due("6 it", x.pop(), 1);
        due("6 first", x.pop(), 3);
        due("6 empty again", x.pop(), R);
        due("6 empty still", x.pop(), R);
        due("6 push on the emptied one", x.push(2), 1);
        due("6 models", x.models(), 2);
    }

    private static void promise7Clear() {
        EqualityLab x = withConstants(5);
        x.atom(0, 1);
        x.atom(1, 2);
        x.clause(0, -1, -1);
        x.clause(2, -1, -1);
        x.clause(2, 0, -1);
        x.push(0);
        int[] absent = {-1, 3, MIN, MAX};
        for (int what : absent) {
            due("7 clear(" + what + ")", x.clear(what), R);
        }
        due("7 refused took nothing", x.models(), 1);
        due("7 clauses", x.clear(1), 3);
        due("7 no clauses left", x.clear(1), 0);
        due("7 the stack stays", x.models(), 2);
        x.clause(2, -1, -1);
        due("7 stack", x.clear(2), 1);
        due("7 no stack left", x.clear(2), 0);
        due("7 clauses stay", x.models(), 2);
        due("7 terms stay", x.least(4), 4);
        due("7 atoms stay", x.push(3), 1);
        due("7 all: how many terms", x.clear(0), 5);
        due("7 no terms", x.least(0), R);
        due("7 no atoms", x.holds(0), R);
        due("7 no clauses", x.clear(1), 0);
        due("7 no stack", x.clear(2), 0);
        due("7 one way", x.models(), 1);
        due("7 all again", x.clear(0), 0);
    }

    private static void promise7ClearLeavesNothingBehind() {
        EqualityLab x = withConstants(2);
        x.term(2, 0, 1);
        x.term(2, 0, 1);
        x.atom(0, 1);
        x.clause(0, -1, -1);
        x.push(0);
        x.clear(0);
        for (int i = 0; i < 4; i++) {
            due("7 numbers from 0", x.term(0, 0, 0), i);
        }
        due("7 constants now", x.classes(0), 4);
        due("7 atoms from 0", x.atom(2, 3), 0);
        due("7 old clause is gone", x.models(), 2);
        due("7 old atom is gone", x.one(0, 1), 0);
        due("7 clauses from 0", x.clause(1, -1, -1), 0);
        due("7 stack from 0", x.push(1), 1);
        due("7 models", x.models(), 1);
    }

    private static void promise8And9Models() {
        EqualityLab x = withConstants(3);
        x.atom(0, 1);
        x.atom(1, 2);
        x.atom(2, 0);
        int[] ways = {0, 1, 2, 4, 7};
        due("8 models", x.models(), 5);
        for (int k = 0; k < ways.length; k++) {
            due("9 model(" + k + ")", x.model(k), ways[k]);
        }
        int[] absent = {-1, 5, 7, 256, MIN, MAX};
        for (int k : absent) {
            due("9 model(" + k + ")", x.model(k), R);
        }
        x.push(0);
        due("8 with atom 0", x.models(), 2);
        due("9 least of them", x.model(0), 1);
        due("9 next of them", x.model(1), 7);
        x.push(3);
        due("8 and not atom 1", x.models(), 1);
        x.push(4);
        due("8 none", x.models(), 0);
        due("9 none", x.model(0), R);
    }

    private static void promise8CongruenceRulesWaysOut() {
        EqualityLab x = withConstants(4);
        x.term(2, 0, 1);   // 4
        x.term(2, 2, 3);   // 5
        x.term(1, 4, 0);   // 6
        x.term(1, 5, 0);   // 7
        x.term(3, 5, 0);   // 8
        x.atom(0, 2);
        x.atom(1, 3);
        x.atom(6, 7);
        x.atom(7, 8);
        due("8 all ways but those that say G differs", x.models(), 14);
        x.push(0);
        x.push(2);
        due("8 F(G) must be equal", x.models(), 2);
        due("9 without H", x.model(0), 7);
        due("9 with H", x.model(1), 15);
        due("8 one of the arguments is not enough", x.pop(), 2);
        due("8 models", x.models(), 6);
        // F of equal values says nothing of its arguments.
        EqualityLab y = withConstants(2);
        y.term(1, 0, 0);
        y.term(1, 1, 0);
        y.atom(0, 1);
        y.atom(2, 3);
        due("8 F may map two to one", y.models(), 3);
        due("9 that way", y.model(1), 2);
    }

    private static void promise10Holds() {
        EqualityLab x = withConstants(4);
        x.atom(0, 1);
        x.atom(2, 3);
        x.atom(1, 1);
        int[] absent = {-1, -2, 6, 7, MIN, MAX};
        for (int l : absent) {
            due("10 holds(" + l + ")", x.holds(l), R);
        }
        due("10 free", x.holds(0), 2);
        due("10 free opposite", x.holds(1), 2);
        due("10 t = t", x.holds(4), 1);
        due("10 not t = t", x.holds(5), 0);
        x.push(3);
        due("10 denied", x.holds(2), 0);
        due("10 its opposite", x.holds(3), 1);
        x.clause(0, 2, -1);
        due("10 forced", x.holds(0), 1);
        due("10 forced opposite", x.holds(1), 0);
        x.push(1);
        for (int l = 0; l < 6; l++) {
            due("10 no model, " + l, x.holds(l), N);
        }
        EqualityLab y = withConstants(2);
        y.atom(0, 1);
        due("10 a way without atoms counts", y.holds(0), 2);
        due("10 and for the opposite", y.holds(1), 2);
        y.push(1);
        due("10 it alone", y.holds(0), 0);
    }

    private static void promise11One() {
        EqualityLab x = withConstants(3);
        x.term(1, 0, 0);   // 3
        x.term(1, 1, 0);   // 4
        x.term(1, 1, 0);   // 5
        x.atom(0, 1);
        int[] absent = {-1, 6, 16, MIN, MAX};
        for (int t : absent) {
            due("11 one(" + t + ", 0)", x.one(t, 0), R);
            due("11 one(0, " + t + ")", x.one(0, t), R);
        }
        due("11 itself", x.one(2, 2), 1);
        due("11 twice the same term", x.one(4, 5), 1);
        due("11 of an atom", x.one(0, 1), 2);
        due("11 the other way round", x.one(1, 0), 2);
        due("11 by F", x.one(3, 5), 2);
        due("11 of no atom", x.one(0, 2), 0);
        x.push(1);
        due("11 denied", x.one(3, 4), 0);
        x.push(0);
        due("11 no model", x.one(3, 4), N);
        due("11 no model, itself", x.one(2, 2), N);
        x.clear(2);
        x.clause(0, -1, -1);
        due("11 by a clause", x.one(3, 4), 1);
    }

    private static void promise12Classes() {
        EqualityLab x = withConstants(4);
        due("12 no atoms, least", x.classes(0), 4);
        due("12 no atoms, greatest", x.classes(1), 4);
        x.atom(0, 1);
        x.atom(1, 2);
        x.term(1, 0, 0);
        x.term(1, 2, 0);
        int[] absent = {-1, 2, 3, MIN, MAX};
        for (int what : absent) {
            due("12 classes(" + what + ")", x.classes(what), R);
        }
        due("12 least", x.classes(0), 3);
        due("12 greatest", x.classes(1), 6);
        x.clause(0, 2, -1);
        due("12 least with a clause", x.classes(0), 3);
        due("12 greatest with a clause", x.classes(1), 5);
        x.clause(1, 3, -1);
        due("12 least with both", x.classes(0), 5);
        x.push(0);
        x.push(2);
        due("12 no model, least", x.classes(0), N);
        due("12 no model, greatest", x.classes(1), N);
        // The least way need not have the most classes: here it has the fewest.
        EqualityLab y = withConstants(5);
        y.atom(0, 1);
        y.atom(0, 2);
        y.atom(3, 4);
        y.clause(4, 0, -1);
        y.clause(4, 2, -1);
        y.clause(5, 1, -1);
        y.clause(5, 3, -1);
        due("12 least way", y.model(0), 3);
        due("12 greatest way", y.model(1), 4);
        due("12 least number", y.classes(0), 3);
        due("12 greatest number", y.classes(1), 4);
    }

    private static void promise13Least() {
        EqualityLab x = withConstants(4);
        x.term(1, 1, 0);   // 4
        x.term(1, 3, 0);   // 5
        x.atom(3, 2);
        x.atom(2, 1);
        x.atom(0, 1);
        int[] absent = {-1, 6, 16, MIN, MAX};
        for (int t : absent) {
            due("13 least(" + t + ")", x.least(t), R);
        }
        due("13 empty stack", x.least(3), 3);
        x.push(0);
        due("13 one step", x.least(3), 2);
        x.push(5);
        due("13 opposites do not count", x.least(1), 1);
        x.push(2);
        due("13 two steps", x.least(3), 1);
        due("13 middle", x.least(2), 1);
        due("13 by F", x.least(5), 4);
        due("13 not further", x.least(0), 0);
        x.push(3);
        due("13 without a model still", x.least(3), 1);
        x.clause(4, -1, -1);
        due("13 clauses do not count", x.least(1), 1);
        due("13 a term that is the least", x.least(4), 4);
    }

    private static void promise14Why() {
        EqualityLab x = withConstants(4);
        x.term(2, 0, 1);   // 4
        x.term(2, 2, 3);   // 5
        x.term(2, 2, 3);   // 6
        x.atom(0, 2);
        x.atom(1, 3);
        int[] absent = {-1, 7, 16, MIN, MAX};
        for (int t : absent) {
            due("14 why(" + t + ", 0)", x.why(t, 0), R);
            due("14 why(0, " + t + ")", x.why(0, t), R);
        }
        due("14 itself", x.why(3, 3), 0);
        due("14 the same term twice", x.why(5, 6), 0);
        due("14 does not follow", x.why(0, 2), N);
        x.push(1);
        due("14 an opposite says nothing", x.why(0, 2), N);
        x.push(2);
        x.push(0);
        due("14 place 1", x.why(3, 1), 2);
        due("14 place 2", x.why(0, 2), 4);
        due("14 G needs both", x.why(4, 6), 6);
        due("14 opposite on the stack does not matter", x.why(6, 4), 6);
        due("14 never", x.why(0, 1), N);
        x.clause(3, -1, -1);
        due("14 clauses do not count", x.why(1, 3), 2);
        x.clear(1);
        x.clear(2);
        x.clause(0, -1, -1);
        due("14 nor do they help", x.why(0, 2), N);
    }

    private static void promise14WhyPrefersFewestThenLeastSum() {
        EqualityLab x = withConstants(4);
        x.atom(0, 1);
        x.atom(1, 2);
        x.atom(2, 3);
        x.atom(0, 3);
        x.push(0);
        x.push(2);
        x.push(4);
        due("14 three", x.why(0, 3), 7);
        x.push(7);
        due("14 an opposite is not one of those atoms", x.why(0, 3), 7);
        x.push(6);
        due("14 fewest, though the sum is greater", x.why(0, 3), 16);
        due("14 of two pairs the least sum", x.why(0, 2), 3);
        x.push(6);
        due("14 of two the least sum", x.why(0, 3), 16);
        x.push(0);
        due("14 the first of two", x.why(0, 1), 1);
        EqualityLab y = withConstants(3);
        y.atom(0, 1);
        y.atom(1, 2);
        for (int i = 0; i < 4; i++) {
            y.push(2);
        }
        for (int i = 0; i < 4; i++) {
            y.push(0);
        }
        due("14 the least pair", y.why(2, 0), 17);
        due("14 in the upper half", y.why(1, 0), 16);
    }

    private static void promise15Blame() {
        EqualityLab x = withConstants(2);
        x.term(1, 0, 0);
        x.term(1, 1, 0);
        x.atom(0, 1);
        x.atom(2, 3);
        x.atom(1, 1);
        due("15 empty stack", x.blame(), N);
        x.push(2);
        x.push(4);
        x.push(1);
        due("15 such a way is there", x.blame(), N);
        x.clear(2);
        x.push(2);
        x.push(3);
        due("15 an atom and its opposite", x.blame(), 3);
        x.clear(2);
        x.push(4);
        x.push(0);
        x.push(2);
        x.push(3);
        due("15 by F with the opposite, the lesser sum of two pairs", x.blame(), 10);
        x.clear(2);
        x.push(4);
        x.push(0);
        x.push(3);
        due("15 by F", x.blame(), 6);
        x.push(5);
        due("15 a literal that never holds", x.blame(), 8);
        x.clear(2);
        x.clause(1, -1, -1);
        x.push(0);
        due("15 clauses do not count", x.blame(), N);
        due("15 though there is no model", x.models(), 0);
    }

    private static void promise15BlamePrefersFewestThenLeastSum() {
        EqualityLab x = withConstants(4);
        x.atom(0, 1);
        x.atom(1, 2);
        x.atom(0, 2);
        x.atom(2, 3);
        x.push(0);
        x.push(2);
        x.push(5);
        due("15 three", x.blame(), 7);
        x.push(6);
        due("15 what is not needed stays out", x.blame(), 7);
        x.push(7);
        due("15 fewest, though the sum is greater", x.blame(), 24);
        x.push(4);
        due("15 of two pairs the least sum", x.blame(), 24);
        x.push(3);
        due("15 of three pairs the least sum", x.blame(), 24);
        EqualityLab y = withConstants(2);
        y.atom(0, 1);
        for (int i = 0; i < 7; i++) {
            y.push(1);
        }
        due("15 seven opposites", y.blame(), N);
        due("15 eight on the stack", y.push(0), 8);
        due("15 the first and the last", y.blame(), 129);
    }

    private static void promise16RefusedBeforeNone() {
        EqualityLab x = withConstants(2);
        x.atom(0, 1);
        x.push(0);
        x.push(1);
        due("16 no model", x.models(), 0);
        int[] absent = {-1, 2, MIN, MAX};
        for (int n : absent) {
            due("16 holds(" + n + ")", x.holds(n), R);
            due("16 one(" + n + ", 0)", x.one(n, 0), R);
            due("16 one(0, " + n + ")", x.one(0, n), R);
            due("16 classes(" + n + ")", x.classes(n), R);
            due("16 why(" + n + ", 0)", x.why(n, 0), R);
            due("16 why(0, " + n + ")", x.why(0, n), R);
        }
        due("16 holds(0)", x.holds(0), N);
        due("16 one(0, 1)", x.one(0, 1), N);
        due("16 classes(0)", x.classes(0), N);
    }

    private static void promise16RefusedChangesNothing() {
        EqualityLab x = withConstants(3);
        x.atom(0, 1);
        x.atom(1, 2);
        x.clause(0, 2, -1);
        x.push(2);
        for (int round = 0; round < 3; round++) {
            int[] bad = {-2, 99, MIN, MAX};
            for (int n : bad) {
                x.term(n, 0, 0);
                x.term(1, n, 0);
                x.term(2, 0, n);
                x.atom(0, n);
                x.atom(n, 0);
                x.clause(0, 1, n);
                x.clause(n, 0, 1);
                x.push(n);
                x.clear(n);
                x.model(n);
                x.holds(n);
                x.one(0, n);
                x.classes(n);
                x.least(n);
                x.why(n, 0);
            }
            x.clause(-1, -1, -1);
            due("16 models", x.models(), 2);
            due("16 model 0", x.model(0), 2);
            due("16 model 1", x.model(1), 3);
            due("16 why", x.why(2, 1), 1);
            due("16 classes", x.classes(1), 2);
        }
        due("16 next term", x.term(0, 0, 0), 3);
        due("16 next atom", x.atom(3, 3), 2);
        due("16 next clause", x.clause(4, -1, -1), 1);
        due("16 next on the stack", x.push(4), 2);
        due("16 latest", x.pop(), 4);
        due("16 first", x.pop(), 2);
        due("16 no more", x.pop(), R);
        due("16 pop of nothing takes nothing", x.push(0), 1);
    }

    private static void objectsAreApart() {
        EqualityLab x = withConstants(2);
        EqualityLab y = withConstants(2);
        x.atom(0, 1);
        x.push(0);
        due("apart: least in one", x.least(1), 0);
        due("apart: least in the other", y.least(1), 1);
        due("apart: no atom in the other", y.push(0), R);
    }

    // Terms F^n(0) with F^8(0) = 0 and F^5(0) = 0: all are one, after many rounds of F.
    private static void longChain() {
        EqualityLab x = withConstants(1);
        for (int i = 1; i < 16; i++) {
            due("chain term", x.term(1, i - 1, 0), i);
        }
        x.atom(0, 8);
        x.atom(5, 0);
        x.atom(0, 1);
        due("chain: all classes", x.classes(1), 16);
        x.push(0);
        due("chain: F^8", x.classes(1), 8);
        due("chain: least", x.least(15), 7);
        x.push(2);
        due("chain: both", x.classes(1), 1);
        due("chain: why", x.why(0, 1), 3);
        due("chain: least of both", x.least(15), 0);
        x.push(5);
        due("chain: blame", x.blame(), 7);
        // The outer terms are numbered last and joined from the first on: 0 = 1 makes F^n(0) = F^n(1).
        EqualityLab y = withConstants(2);
        for (int i = 2; i < 16; i++) {
            y.term(3, i - 2, 0);
        }
        y.atom(0, 1);
        y.push(0);
        due("chains: pairs", y.classes(0), 8);
        due("chains: least of the last", y.least(15), 14);
        due("chains: why", y.why(14, 15), 1);
    }

    // Pairs p = q that each make F(p) = F(q), which is the next pair: the last terms are the first to join.
    private static void manyRounds() {
        EqualityLab x = withConstants(8);
        for (int i = 8; i < 16; i++) {
            due("rounds term", x.term(1, i - 8, 0), i);
        }
        x.atom(6, 7);
        for (int i = 5; i >= 0; i--) {
            x.atom(i, i + 10);
        }
        x.atom(8, 9);
        for (int a = 0; a < 7; a++) {
            due("rounds: not before all are there", x.why(8, 9), N);
            due("rounds push", x.push(2 * a), a + 1);
        }
        due("rounds: least", x.least(9), 8);
        due("rounds: why", x.why(9, 8), 127);
        due("rounds: one", x.one(8, 9), 1);
        due("rounds: classes", x.classes(0), 5);
        due("rounds: model", x.model(0), 255);
        due("rounds: models", x.models(), 1);
        due("rounds: opposite", x.push(15), 8);
        due("rounds: blame on all eight", x.blame(), 255);
    }

    private static void wholeStack() {
        EqualityLab x = withConstants(9);
        for (int a = 0; a < 8; a++) {
            x.atom(a, a + 1);
            x.push(2 * a);
        }
        due("whole stack: why by all eight", x.why(0, 8), 255);
        due("whole stack: why by seven", x.why(8, 1), 254);
        due("whole stack: least", x.least(8), 0);
    }

    private static void fullObject() {
        EqualityLab x = withConstants(16);
        for (int a = 0; a < 8; a++) {
            due("full atom", x.atom(2 * a, 2 * a + 1), a);
        }
        due("full: models", x.models(), 256);
        due("full: first", x.model(0), 0);
        due("full: last", x.model(255), 255);
        due("full: beyond", x.model(256), R);
        due("full: least classes", x.classes(0), 8);
        due("full: greatest classes", x.classes(1), 16);
        for (int a = 0; a < 8; a++) {
            due("full push", x.push(2 * a), a + 1);
        }
        due("full: one model", x.model(0), 255);
        due("full: why of the last", x.why(14, 15), 128);
        for (int c = 0; c < 12; c++) {
            due("full clause", x.clause(15, 13, 11), c);
        }
        due("full: no model", x.models(), 0);
        due("full: no blame", x.blame(), N);
    }

    private static void exampleOfTheReadme() {
        EqualityLab lab = new EqualityLab();
        int a = lab.term(0, 0, 0);
        int b = lab.term(0, 0, 0);
        int fa = lab.term(1, a, 0);
        int fb = lab.term(1, b, 0);
        int same = lab.atom(a, b);
        int images = lab.atom(fa, fb);
        due("README models", lab.models(), 3);
        due("README first push", lab.push(2 * same), 1);
        due("README why", lab.why(fa, fb), 1);
        due("README second push", lab.push(2 * images + 1), 2);
        due("README blame", lab.blame(), 3);
    }
}
