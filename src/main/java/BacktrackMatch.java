public final class BacktrackMatch {
    public static final int NO_MATCH = -1;
    public static final int REFUSED = -2;
    public static final int MAX_CONS = 8;
    public static final int NUM_VARS = 8;
    public static final int P_WILD = 0;
    public static final int P_AS = 1;
    public static final int P_CONS = 2;
    public static final int P_OR = 3;
    public static final int G_NONE = 0;
    public static final int G_SAME = 1;
    public static final int G_DIFF = 2;
    public static final int G_HEAD = 3;
    public static final int G_LOW = 4;
    public static final int COUNT_CONS = 0;
    public static final int COUNT_TERMS = 1;
    public static final int COUNT_PATTERNS = 2;
    public static final int COUNT_ROWS = 3;
    public static final int COUNT_COMPILED = 4;

    private static final int NONE = -1;
    private static final int MIN_TERMS = 8;
    private static final int MAX_TERMS = 64;
    private static final int MIN_PATTERNS = 8;
    private static final int MAX_PATTERNS = 64;
    private static final int MIN_ROWS = 1;
    private static final int MAX_ROWS = 8;
    private static final int FIT_CELLS = 4096;

    private final int termCapacity;
    private final int patternCapacity;
    private final int rowCapacity;

    private int consCount;
    private final int[] consArity = new int[MAX_CONS];

    private int termCount;
    private final int[] termCons = new int[MAX_TERMS];
    private final int[] termFirst = new int[MAX_TERMS];
    private final int[] termSecond = new int[MAX_TERMS];
    private final int[] termHeights = new int[MAX_TERMS];

    // A pattern's label is its variable (P_AS) or its constructor (P_CONS).
    private int patternCount;
    private final int[] patternKind = new int[MAX_PATTERNS];
    private final int[] patternLabel = new int[MAX_PATTERNS];
    private final int[] patternFirst = new int[MAX_PATTERNS];
    private final int[] patternSecond = new int[MAX_PATTERNS];
    private final boolean[] patternUsed = new boolean[MAX_PATTERNS];

    // Whether pattern p matches term t, kept true for every pair that exists:
    // children have smaller ids than their parent, so a new pattern or a new
    // term only needs cells that are there already, and no recursion.
    private final boolean[] fits = new boolean[FIT_CELLS];

    private int rowCount;
    private final int[] rowPattern = new int[MAX_ROWS];
    private final int[] rowGuard = new int[MAX_ROWS];
    private final int[] rowG1 = new int[MAX_ROWS];
    private final int[] rowG2 = new int[MAX_ROWS];

    private boolean compiled;

    private int selectedRow;
    private final int[] selectedBindings = new int[NUM_VARS];
    private int guardLogSize;
    private final int[] guardLog = new int[MAX_ROWS];

    // Work space of one match; nothing in it is read by a later call.
    private final int[] rowBindings = new int[NUM_VARS];
    private int pendingCount;
    private final int[] pendingPattern = new int[MAX_PATTERNS];
    private final int[] pendingTerm = new int[MAX_PATTERNS];

    public BacktrackMatch(int termCapacity, int patternCapacity, int rowCapacity) {
        this.termCapacity = clamp(termCapacity, MIN_TERMS, MAX_TERMS);
        this.patternCapacity = clamp(patternCapacity, MIN_PATTERNS, MAX_PATTERNS);
        this.rowCapacity = clamp(rowCapacity, MIN_ROWS, MAX_ROWS);
        consCount = 0;
        termCount = 0;
        patternCount = 0;
        rowCount = 0;
        compiled = false;
        clearResults();
    }

    public int defCons(int arity) {
        if (termCount > 0 || patternCount > 0) {
            return NONE;
        }
        if (consCount == MAX_CONS) {
            return NONE;
        }
        if (arity < 0 || arity > 2) {
            return NONE;
        }
        int c = consCount;
        consArity[c] = arity;
        consCount = c + 1;
        return c;
    }

    public int term(int c, int t0, int t1) {
        if (!isConstructor(c)) {
            return NONE;
        }
        // An argument past the arity becomes NONE, so that it can't tell two nodes apart.
        int first = consArity[c] >= 1 ? t0 : NONE;
        int second = consArity[c] == 2 ? t1 : NONE;
        if (consArity[c] >= 1 && !isTerm(first)) {
            return NONE;
        }
        if (consArity[c] == 2 && !isTerm(second)) {
            return NONE;
        }
        int found = findTerm(c, first, second);
        if (found != NONE) {
            return found;
        }
        if (termCount == termCapacity) {
            return NONE;
        }
        return storeTerm(c, first, second);
    }

    public int pat(int kind, int a, int b, int c) {
        if (compiled) {
            return NONE;
        }
        if (patternCount == patternCapacity) {
            return NONE;
        }
        if (kind < P_WILD || kind > P_OR) {
            return NONE;
        }
        if (!patternArgumentsAreValid(kind, a, b, c)) {
            return NONE;
        }
        int first = firstPatternChild(kind, a, b);
        int second = secondPatternChild(kind, a, b, c);
        return storePattern(kind, a, first, second);
    }

    public int addRow(int p, int guardKind, int g1, int g2) {
        if (compiled) {
            return NONE;
        }
        if (rowCount == rowCapacity) {
            return NONE;
        }
        if (!isFreePattern(p)) {
            return NONE;
        }
        if (guardKind < G_NONE || guardKind > G_LOW) {
            return NONE;
        }
        if (!guardArgumentsAreValid(guardKind, g1, g2)) {
            return NONE;
        }
        int r = rowCount;
        rowPattern[r] = p;
        rowGuard[r] = guardKind;
        rowG1[r] = g1;
        rowG2[r] = g2;
        patternUsed[p] = true;
        rowCount = r + 1;
        return r;
    }

    public int compile() {
        if (compiled) {
            return NONE;
        }
        compiled = true;
        return rowCount;
    }

    public void reset() {
        patternCount = 0;
        rowCount = 0;
        compiled = false;
        clearResults();
    }

    public int match(int t) {
        return runMatch(t);
    }

    public int matchInOrder(int t) {
        return runMatch(t);
    }

    public boolean rowPatternMatches(int r, int t) {
        if (r < 0 || r >= rowCount) {
            return false;
        }
        if (!isTerm(t)) {
            return false;
        }
        return patternFits(rowPattern[r], t);
    }

    public int lastRow() {
        return selectedRow;
    }

    public int binding(int x) {
        return isVariable(x) ? selectedBindings[x] : NONE;
    }

    public int guardLogLength() {
        return guardLogSize;
    }

    public int guardLogAt(int i) {
        return i >= 0 && i < guardLogSize ? guardLog[i] : NONE;
    }

    public int termHeight(int t) {
        return isTerm(t) ? termHeights[t] : NONE;
    }

    public int count(int what) {
        switch (what) {
            case COUNT_CONS:
                return consCount;
            case COUNT_TERMS:
                return termCount;
            case COUNT_PATTERNS:
                return patternCount;
            case COUNT_ROWS:
                return rowCount;
            case COUNT_COMPILED:
                return compiled ? 1 : 0;
            default:
                return NONE;
        }
    }

    private static int clamp(int value, int least, int greatest) {
        if (value < least) {
            return least;
        }
        return value > greatest ? greatest : value;
    }

    private boolean isConstructor(int c) {
        return c >= 0 && c < consCount;
    }

    private boolean isTerm(int t) {
        return t >= 0 && t < termCount;
    }

    private boolean isVariable(int x) {
        return x >= 0 && x < NUM_VARS;
    }

    private boolean isFreePattern(int p) {
        return p >= 0 && p < patternCount && !patternUsed[p];
    }

    private int findTerm(int c, int first, int second) {
        for (int t = 0; t < termCount; t++) {
            if (termCons[t] == c && termFirst[t] == first && termSecond[t] == second) {
                return t;
            }
        }
        return NONE;
    }

    private int storeTerm(int c, int first, int second) {
        int t = termCount;
        termCons[t] = c;
        termFirst[t] = first;
        termSecond[t] = second;
        termHeights[t] = heightAbove(first, second);
        termCount = t + 1;
        for (int p = 0; p < patternCount; p++) {
            recordFit(p, t);
        }
        return t;
    }

    private int heightAbove(int first, int second) {
        int below = first == NONE ? 0 : termHeights[first];
        if (second != NONE && termHeights[second] > below) {
            below = termHeights[second];
        }
        return below + 1;
    }

    private boolean patternArgumentsAreValid(int kind, int a, int b, int c) {
        switch (kind) {
            case P_AS:
                return isVariable(a) && isFreePattern(b);
            case P_CONS:
                return isConstructor(a) && consChildrenAreValid(consArity[a], b, c);
            case P_OR:
                return isFreePattern(a) && isFreePattern(b) && a != b;
            default:
                return true;
        }
    }

    private boolean consChildrenAreValid(int arity, int first, int second) {
        if (arity >= 1 && !isFreePattern(first)) {
            return false;
        }
        return arity < 2 || (isFreePattern(second) && second != first);
    }

    private int firstPatternChild(int kind, int a, int b) {
        switch (kind) {
            case P_AS:
                return b;
            case P_CONS:
                return consArity[a] >= 1 ? b : NONE;
            case P_OR:
                return a;
            default:
                return NONE;
        }
    }

    private int secondPatternChild(int kind, int a, int b, int c) {
        switch (kind) {
            case P_CONS:
                return consArity[a] == 2 ? c : NONE;
            case P_OR:
                return b;
            default:
                return NONE;
        }
    }

    private int storePattern(int kind, int label, int first, int second) {
        int p = patternCount;
        patternKind[p] = kind;
        patternLabel[p] = label;
        patternFirst[p] = first;
        patternSecond[p] = second;
        patternUsed[p] = false;
        if (first != NONE) {
            patternUsed[first] = true;
        }
        if (second != NONE) {
            patternUsed[second] = true;
        }
        patternCount = p + 1;
        for (int t = 0; t < termCount; t++) {
            recordFit(p, t);
        }
        return p;
    }

    private boolean guardArgumentsAreValid(int guardKind, int g1, int g2) {
        switch (guardKind) {
            case G_SAME:
            case G_DIFF:
                return isVariable(g1) && isVariable(g2);
            case G_HEAD:
                return isVariable(g1) && isConstructor(g2);
            case G_LOW:
                return isVariable(g1);
            default:
                return true;
        }
    }

    private boolean patternFits(int p, int t) {
        return fits[p * MAX_TERMS + t];
    }

    private void recordFit(int p, int t) {
        fits[p * MAX_TERMS + t] = nodeFits(p, t);
    }

    private boolean nodeFits(int p, int t) {
        int first = patternFirst[p];
        int second = patternSecond[p];
        switch (patternKind[p]) {
            case P_AS:
                return patternFits(first, t);
            case P_CONS:
                return patternLabel[p] == termCons[t]
                    && (first == NONE || patternFits(first, termFirst[t]))
                    && (second == NONE || patternFits(second, termSecond[t]));
            case P_OR:
                return patternFits(first, t) || patternFits(second, t);
            default:
                return true;
        }
    }

    private void clearResults() {
        selectedRow = NO_MATCH;
        for (int x = 0; x < NUM_VARS; x++) {
            selectedBindings[x] = NONE;
        }
        guardLogSize = 0;
    }

    private int runMatch(int t) {
        if (!compiled || !isTerm(t)) {
            return REFUSED;
        }
        clearResults();
        for (int r = 0; r < rowCount; r++) {
            if (patternFits(rowPattern[r], t)) {
                bindRow(r, t);
                if (passesGuard(r)) {
                    selectRow(r);
                    return r;
                }
            }
        }
        return NO_MATCH;
    }

    // The last write to a variable counts, so the walk goes through the writes
    // from the last to the first and keeps the first one that it meets.
    private void bindRow(int r, int t) {
        for (int x = 0; x < NUM_VARS; x++) {
            rowBindings[x] = NONE;
        }
        pendingCount = 0;
        addPending(rowPattern[r], t);
        // A node has one parent at most, so no walk visits more nodes than there are.
        for (int visits = 0; visits < MAX_PATTERNS && pendingCount > 0; visits++) {
            pendingCount--;
            visit(pendingPattern[pendingCount], pendingTerm[pendingCount]);
        }
    }

    private void visit(int p, int t) {
        int first = patternFirst[p];
        int second = patternSecond[p];
        switch (patternKind[p]) {
            case P_AS:
                bindIfUnbound(patternLabel[p], t);
                addPending(first, t);
                break;
            case P_CONS:
                // The child added last is visited first: the writes of child 1 are the later ones.
                addPending(first, termFirst[t]);
                addPending(second, termSecond[t]);
                break;
            case P_OR:
                boolean leftmost = patternFits(first, t);
                addPending(leftmost ? first : second, t);
                break;
            default:
                break;
        }
    }

    private void addPending(int p, int t) {
        if (p != NONE && pendingCount < MAX_PATTERNS) {
            pendingPattern[pendingCount] = p;
            pendingTerm[pendingCount] = t;
            pendingCount++;
        }
    }

    private void bindIfUnbound(int x, int t) {
        if (rowBindings[x] == NONE) {
            rowBindings[x] = t;
        }
    }

    private boolean passesGuard(int r) {
        if (rowGuard[r] == G_NONE) {
            return true;
        }
        guardLog[guardLogSize] = r;
        guardLogSize++;
        int bound = rowBindings[rowG1[r]];
        return bound != NONE && guardHolds(rowGuard[r], bound, rowG2[r]);
    }

    private boolean guardHolds(int guardKind, int bound, int g2) {
        switch (guardKind) {
            case G_SAME:
                return rowBindings[g2] == bound;
            case G_DIFF:
                return rowBindings[g2] != NONE && rowBindings[g2] != bound;
            case G_HEAD:
                return termCons[bound] == g2;
            default:
                return termHeights[bound] <= g2;
        }
    }

    private void selectRow(int r) {
        selectedRow = r;
        for (int x = 0; x < NUM_VARS; x++) {
            selectedBindings[x] = rowBindings[x];
        }
    }
}
