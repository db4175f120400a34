/** Equalities between terms with unknown functions: what follows, which ways are models, and what is to blame. */
public final class EqualityLab {
    public static final int REFUSED = -1, NONE = -2;

    private static final int MAX_TERMS = 16, MAX_ATOMS = 8, MAX_CLAUSES = 12, MAX_STACK = 8;
    private static final int CLAUSE_WIDTH = 3, MAX_CLAUSE_LITERALS = 36;
    private static final int CONSTANT = 0, G = 2, H = 3;
    private static final int NO_LITERAL = -1;
    private static final int CLEAR_EVERYTHING = 0, CLEAR_CLAUSES = 1, CLEAR_STACK = 2;
    private static final int LEAST = 0, GREATEST = 1;
    private static final int IN_NO_MODEL = 0, IN_ALL_MODELS = 1, IN_SOME_MODELS = 2;

    private final int[] termKind = new int[MAX_TERMS];
    private final int[] firstPart = new int[MAX_TERMS];
    private final int[] secondPart = new int[MAX_TERMS];
    private int termCount;

    private final int[] leftSide = new int[MAX_ATOMS];
    private final int[] rightSide = new int[MAX_ATOMS];
    private int atomCount;

    private final int[] clauseLiterals = new int[MAX_CLAUSE_LITERALS];
    private int clauseCount;

    private final int[] stack = new int[MAX_STACK];
    private int stackCount;

    // Scratch of the latest closeUnder: the least term that each term equals.
    private final int[] leader = new int[MAX_TERMS];

    public EqualityLab() {
        termCount = 0;
        atomCount = 0;
        clauseCount = 0;
        stackCount = 0;
    }

    public int term(int kind, int a, int b) {
        if (termCount >= MAX_TERMS || kind < CONSTANT || kind > H) {
            return REFUSED;
        }
        if (kind != CONSTANT && !isTerm(a)) {
            return REFUSED;
        }
        if (kind == G && !isTerm(b)) {
            return REFUSED;
        }
        // Parts that are not named may be any number, so they must not be kept as indices.
        termKind[termCount] = kind;
        firstPart[termCount] = kind == CONSTANT ? 0 : a;
        secondPart[termCount] = kind == G ? b : 0;
        termCount++;
        return termCount - 1;
    }

    public int atom(int t, int u) {
        if (atomCount >= MAX_ATOMS || !isTerm(t) || !isTerm(u)) {
            return REFUSED;
        }
        leftSide[atomCount] = t;
        rightSide[atomCount] = u;
        atomCount++;
        return atomCount - 1;
    }

    public int clause(int l, int m, int n) {
        if (clauseCount >= MAX_CLAUSES) {
            return REFUSED;
        }
        if (l == NO_LITERAL && m == NO_LITERAL && n == NO_LITERAL) {
            return REFUSED;
        }
        if (!fitsClause(l) || !fitsClause(m) || !fitsClause(n)) {
            return REFUSED;
        }
        int start = clauseCount * CLAUSE_WIDTH;
        clauseLiterals[start] = l;
        clauseLiterals[start + 1] = m;
        clauseLiterals[start + 2] = n;
        clauseCount++;
        return clauseCount - 1;
    }

    public int push(int literal) {
        if (stackCount >= MAX_STACK || !isLiteral(literal)) {
            return REFUSED;
        }
        stack[stackCount] = literal;
        stackCount++;
        return stackCount;
    }

    public int pop() {
        if (stackCount <= 0) {
            return REFUSED;
        }
        stackCount--;
        return stack[stackCount];
    }

    public int clear(int what) {
        int gone = REFUSED;
        if (what == CLEAR_EVERYTHING) {
            gone = termCount;
            termCount = 0;
            atomCount = 0;
            clauseCount = 0;
            stackCount = 0;
        } else if (what == CLEAR_CLAUSES) {
            gone = clauseCount;
            clauseCount = 0;
        } else if (what == CLEAR_STACK) {
            gone = stackCount;
            stackCount = 0;
        }
        return gone;
    }

    public int models() {
        int ways = 1 << atomCount;
        int found = 0;
        for (int way = 0; way < ways; way++) {
            if (isModel(way)) {
                found++;
            }
        }
        return found;
    }

    public int model(int k) {
        int ways = 1 << atomCount;
        int found = 0;
        for (int way = 0; way < ways; way++) {
            if (isModel(way)) {
                if (found == k) {
                    return way;
                }
                found++;
            }
        }
        return REFUSED;
    }

    public int holds(int literal) {
        if (!isLiteral(literal)) {
            return REFUSED;
        }
        int ways = 1 << atomCount;
        int found = 0;
        int agreeing = 0;
        for (int way = 0; way < ways; way++) {
            if (isModel(way)) {
                found++;
                if (holdsIn(literal, way)) {
                    agreeing++;
                }
            }
        }
        return verdict(agreeing, found);
    }

    public int one(int t, int u) {
        if (!isTerm(t) || !isTerm(u)) {
            return REFUSED;
        }
        int ways = 1 << atomCount;
        int found = 0;
        int agreeing = 0;
        for (int way = 0; way < ways; way++) {
            if (isModel(way)) {
                found++;
                if (leader[t] == leader[u]) {
                    agreeing++;
                }
            }
        }
        return verdict(agreeing, found);
    }

    public int classes(int what) {
        if (what != LEAST && what != GREATEST) {
            return REFUSED;
        }
        int ways = 1 << atomCount;
        int best = NONE;
        for (int way = 0; way < ways; way++) {
            if (isModel(way)) {
                int count = countLeaders();
                boolean better = what == LEAST ? count < best : count > best;
                if (best == NONE || better) {
                    best = count;
                }
            }
        }
        return best;
    }

    public int least(int t) {
        if (!isTerm(t)) {
            return REFUSED;
        }
        int everyPlace = (1 << stackCount) - 1;
        int asserted = atomsAt(everyPlace);
        closeUnder(asserted);
        return leader[t];
    }

    public int why(int t, int u) {
        if (!isTerm(t) || !isTerm(u)) {
            return REFUSED;
        }
        int choices = 1 << stackCount;
        int best = NONE;
        int fewest = MAX_STACK + 1;
        // An opposite adds nothing to what follows, so the fewest places never name one.
        for (int places = 0; places < choices; places++) {
            int size = countPlaces(places);
            if (size < fewest) {
                int asserted = atomsAt(places);
                closeUnder(asserted);
                if (leader[t] == leader[u]) {
                    best = places;
                    fewest = size;
                }
            }
        }
        return best;
    }

    public int blame() {
        int choices = 1 << stackCount;
        int best = NONE;
        int fewest = MAX_STACK + 1;
        for (int places = 0; places < choices; places++) {
            int size = countPlaces(places);
            if (size < fewest && clash(places)) {
                best = places;
                fewest = size;
            }
        }
        return best;
    }

    private boolean isTerm(int t) {
        return t >= 0 && t < termCount;
    }

    private boolean isLiteral(int literal) {
        return literal >= 0 && literal < 2 * atomCount;
    }

    private boolean fitsClause(int literal) {
        return literal == NO_LITERAL || isLiteral(literal);
    }

    private static boolean holdsIn(int literal, int way) {
        int says = (way >> (literal >> 1)) & 1;
        return says != (literal & 1);
    }

    private static int verdict(int agreeing, int found) {
        if (found == 0) {
            return NONE;
        }
        if (agreeing == found) {
            return IN_ALL_MODELS;
        }
        return agreeing == 0 ? IN_NO_MODEL : IN_SOME_MODELS;
    }

    /** Where this is true, leader tells which terms are one in the model. */
    private boolean isModel(int way) {
        if (!stackHolds(way) || !clausesHold(way)) {
            return false;
        }
        closeUnder(way);
        return followingAtoms() == way;
    }

    private boolean stackHolds(int way) {
        for (int place = 0; place < stackCount; place++) {
            if (!holdsIn(stack[place], way)) {
                return false;
            }
        }
        return true;
    }

    private boolean clausesHold(int way) {
        for (int c = 0; c < clauseCount; c++) {
            if (!clauseHolds(c, way)) {
                return false;
            }
        }
        return true;
    }

    private boolean clauseHolds(int c, int way) {
        int start = c * CLAUSE_WIDTH;
        for (int i = 0; i < CLAUSE_WIDTH; i++) {
            int literal = clauseLiterals[start + i];
            if (literal != NO_LITERAL && holdsIn(literal, way)) {
                return true;
            }
        }
        return false;
    }

    /** Whether no possible way has all literals at these places together. */
    private boolean clash(int places) {
        int asserted = atomsAt(places);
        int denied = oppositesAt(places);
        closeUnder(asserted);
        // The atoms that follow are the smallest possible way with all that is asserted:
        // if even that one holds a denied atom, every other does too.
        return (followingAtoms() & denied) != 0;
    }

    /** The set of atoms whose literals at these places say that they hold. */
    private int atomsAt(int places) {
        int atoms = 0;
        for (int place = 0; place < stackCount; place++) {
            if (((places >> place) & 1) == 1 && (stack[place] & 1) == 0) {
                atoms |= 1 << (stack[place] >> 1);
            }
        }
        return atoms;
    }

    /** The set of atoms whose literals at these places say that they do not hold. */
    private int oppositesAt(int places) {
        int atoms = 0;
        for (int place = 0; place < stackCount; place++) {
            if (((places >> place) & 1) == 1 && (stack[place] & 1) == 1) {
                atoms |= 1 << (stack[place] >> 1);
            }
        }
        return atoms;
    }

    private static int countPlaces(int places) {
        int count = 0;
        for (int place = 0; place < MAX_STACK; place++) {
            count += (places >> place) & 1;
        }
        return count;
    }

    /** Fills leader with what follows from a set of atoms. */
    private void closeUnder(int atoms) {
        for (int t = 0; t < termCount; t++) {
            leader[t] = t;
        }
        for (int a = 0; a < atomCount; a++) {
            if (((atoms >> a) & 1) == 1) {
                join(leftSide[a], rightSide[a]);
            }
        }
        // Each round but the last joins two classes, so there are never more rounds than terms.
        boolean joined = true;
        for (int round = 0; joined && round < MAX_TERMS; round++) {
            joined = joinAlike();
        }
    }

    private boolean joinAlike() {
        boolean joined = false;
        for (int t = 0; t < termCount; t++) {
            for (int u = 0; u < t; u++) {
                if (leader[t] != leader[u] && areAlike(t, u)) {
                    join(t, u);
                    joined = true;
                }
            }
        }
        return joined;
    }

    /** Whether two terms are the same function of equal parts. */
    private boolean areAlike(int t, int u) {
        if (termKind[t] != termKind[u] || termKind[t] == CONSTANT) {
            return false;
        }
        if (leader[firstPart[t]] != leader[firstPart[u]]) {
            return false;
        }
        return termKind[t] != G || leader[secondPart[t]] == leader[secondPart[u]];
    }

    private void join(int t, int u) {
        int kept = leader[t] < leader[u] ? leader[t] : leader[u];
        int dropped = leader[t] < leader[u] ? leader[u] : leader[t];
        for (int v = 0; v < termCount; v++) {
            if (leader[v] == dropped) {
                leader[v] = kept;
            }
        }
    }

    /** The set of atoms that follow, by leader. */
    private int followingAtoms() {
        int atoms = 0;
        for (int a = 0; a < atomCount; a++) {
            if (leader[leftSide[a]] == leader[rightSide[a]]) {
                atoms |= 1 << a;
            }
        }
        return atoms;
    }

    private int countLeaders() {
        int count = 0;
        for (int t = 0; t < termCount; t++) {
            if (leader[t] == t) {
                count++;
            }
        }
        return count;
    }
}
