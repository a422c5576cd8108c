/** Promise 4: pat builds trees, each node used once, and refuses in the order of the document. */
public final class Promise04PatTest {
    private static final int[] NOT_CHILDREN = {-1, Integer.MIN_VALUE, Integer.MAX_VALUE, 64, 4096};

    public static void main(String[] args) {
        idsCountUp();
        ignoredArguments();
        wrongKinds();
        wrongAs();
        wrongCons();
        wrongOr();
        childrenGetUsed();
        refusalsLeaveTheUsedFlags();
        argumentsPastTheArityStayFree();
        rootsOfRowsAreUsed();
        refusedWhenCompiled();
        refusedWhenFull();
        usedFlagsStartAnewAfterReset();
        bothStoresFull();
        Check.end();
    }

    private static void idsCountUp() {
        BacktrackMatch m = Check.declared();
        Check.due("wild", Check.wild(m), 0);
        Check.due("as", Check.as(m, 7, 0), 1);
        Check.due("cons of arity 1", Check.cons(m, 1, 1, 0), 2);
        Check.due("cons of arity 0", Check.cons(m, 0, 0, 0), 3);
        Check.due("cons of arity 2", Check.cons(m, 2, 3, 2), 4);
        Check.due("wild", Check.wild(m), 5);
        Check.due("or", Check.or(m, 5, 4), 6);
        Check.due("patterns", m.count(BacktrackMatch.COUNT_PATTERNS), 7);
    }

    private static void ignoredArguments() {
        BacktrackMatch m = Check.declared();
        Check.due("wild with odd arguments", m.pat(BacktrackMatch.P_WILD, -5, 99, Integer.MIN_VALUE), 0);
        Check.due("as with an odd c", m.pat(BacktrackMatch.P_AS, 0, 0, -77), 1);
        Check.due("arity 0 with odd b and c", m.pat(BacktrackMatch.P_CONS, 0, -1, 500), 2);
        Check.due("arity 1 with an odd c", m.pat(BacktrackMatch.P_CONS, 1, 2, -3), 3);
        Check.due("or with an odd c", m.pat(BacktrackMatch.P_OR, 1, 3, 1000), 4);
        Check.due("arity 1 with c equal to b", m.pat(BacktrackMatch.P_CONS, 1, 4, 4), 5);
    }

    private static void wrongKinds() {
        BacktrackMatch m = Check.declared();
        Check.wild(m);
        Check.wild(m);
        String before = Check.picture(m);
        for (int kind : new int[] {-1, 4, 5, Integer.MIN_VALUE, Integer.MAX_VALUE}) {
            Check.due("pat(" + kind + ", 0, 1, 0)", m.pat(kind, 0, 1, 0), -1);
        }
        Check.due("the picture after refusals", Check.picture(m), before);
    }

    private static void wrongAs() {
        BacktrackMatch m = Check.declared();
        Check.due("as without any child", Check.as(m, 0, 0), -1);
        Check.wild(m);
        for (int x : new int[] {-1, 8, 9, Integer.MIN_VALUE, Integer.MAX_VALUE}) {
            Check.due("as of variable " + x, Check.as(m, x, 0), -1);
        }
        for (int q : NOT_CHILDREN) {
            Check.due("as of child " + q, Check.as(m, 0, q), -1);
        }
        Check.due("as of itself", Check.as(m, 0, 1), -1);
        Check.due("patterns", m.count(BacktrackMatch.COUNT_PATTERNS), 1);
        Check.due("as of variable 7", Check.as(m, 7, 0), 1);
        Check.due("as of variable 0", Check.as(m, 0, 1), 2);
    }

    private static void wrongCons() {
        BacktrackMatch m = Check.declared();
        Check.wild(m);
        Check.wild(m);
        for (int c : new int[] {-1, 4, 8, Integer.MIN_VALUE, Integer.MAX_VALUE}) {
            Check.due("cons of constructor " + c, Check.cons(m, c, 0, 1), -1);
        }
        for (int q : NOT_CHILDREN) {
            Check.due("arity 1 of child " + q, Check.cons(m, 1, q, 0), -1);
            Check.due("arity 2 of child 0 " + q, Check.cons(m, 2, q, 0), -1);
            Check.due("arity 2 of child 1 " + q, Check.cons(m, 2, 0, q), -1);
        }
        Check.due("arity 1 of itself", Check.cons(m, 1, 2, 0), -1);
        Check.due("arity 2 of itself", Check.cons(m, 2, 0, 2), -1);
        Check.due("arity 2 of twice the same", Check.cons(m, 2, 1, 1), -1);
        Check.due("patterns", m.count(BacktrackMatch.COUNT_PATTERNS), 2);
        Check.due("arity 2 of both", Check.cons(m, 2, 1, 0), 2);
    }

    private static void wrongOr() {
        BacktrackMatch m = Check.declared();
        Check.wild(m);
        Check.wild(m);
        for (int q : NOT_CHILDREN) {
            Check.due("or of " + q + " and 0", Check.or(m, q, 0), -1);
            Check.due("or of 0 and " + q, Check.or(m, 0, q), -1);
        }
        Check.due("or of itself", Check.or(m, 0, 2), -1);
        Check.due("or of twice the same", Check.or(m, 1, 1), -1);
        Check.due("patterns", m.count(BacktrackMatch.COUNT_PATTERNS), 2);
        Check.due("or of both", Check.or(m, 1, 0), 2);
    }

    private static void childrenGetUsed() {
        BacktrackMatch m = Check.declared();
        for (int p = 0; p < 7; p++) {
            Check.wild(m);
        }
        Check.as(m, 0, 0);
        Check.cons(m, 1, 1, 0);
        Check.cons(m, 2, 2, 3);
        Check.or(m, 4, 5);
        for (int used = 0; used < 6; used++) {
            dueUsed(m, used, 6);
        }
        Check.due("patterns", m.count(BacktrackMatch.COUNT_PATTERNS), 11);
        for (int free = 6; free < 11; free++) {
            Check.due("row of " + free, Check.plainRow(m, free), free - 6);
        }
    }

    /** Every way to use a pattern must refuse this one, while the free one would do. */
    private static void dueUsed(BacktrackMatch m, int used, int free) {
        Check.due("as of used " + used, Check.as(m, 0, used), -1);
        Check.due("arity 1 of used " + used, Check.cons(m, 1, used, 0), -1);
        Check.due("arity 2 of used " + used + " as child 0", Check.cons(m, 2, used, free), -1);
        Check.due("arity 2 of used " + used + " as child 1", Check.cons(m, 2, free, used), -1);
        Check.due("or of used " + used + " first", Check.or(m, used, free), -1);
        Check.due("or of used " + used + " second", Check.or(m, free, used), -1);
        Check.due("row of used " + used, Check.plainRow(m, used), -1);
    }

    private static void refusalsLeaveTheUsedFlags() {
        BacktrackMatch m = Check.declared();
        Check.wild(m);
        Check.wild(m);
        Check.cons(m, 2, 0, 9);
        Check.cons(m, 2, 9, 0);
        Check.cons(m, 2, 0, 0);
        Check.cons(m, 9, 0, 1);
        Check.or(m, 0, 9);
        Check.or(m, 9, 0);
        Check.or(m, 0, 0);
        Check.as(m, 8, 0);
        m.pat(4, 0, 1, 0);
        Check.due("or of both after refusals", Check.or(m, 0, 1), 2);
    }

    private static void argumentsPastTheArityStayFree() {
        BacktrackMatch m = Check.declared();
        Check.wild(m);
        Check.wild(m);
        Check.wild(m);
        m.pat(BacktrackMatch.P_WILD, 0, 1, 2);
        m.pat(BacktrackMatch.P_CONS, 0, 1, 2);
        m.pat(BacktrackMatch.P_CONS, 1, 0, 2);
        m.pat(BacktrackMatch.P_AS, 1, 5, 2);
        m.pat(BacktrackMatch.P_OR, 6, 4, 2);
        Check.due("the arguments not read are free", Check.or(m, 1, 2), 8);
    }

    private static void rootsOfRowsAreUsed() {
        BacktrackMatch m = Check.declared();
        Check.wild(m);
        Check.wild(m);
        Check.plainRow(m, 0);
        dueUsed(m, 0, 1);
    }

    private static void refusedWhenCompiled() {
        BacktrackMatch m = Check.declared();
        Check.wild(m);
        m.compile();
        String before = Check.picture(m);
        Check.due("wild when compiled", Check.wild(m), -1);
        Check.due("as when compiled", Check.as(m, 0, 0), -1);
        Check.due("the picture after refusals", Check.picture(m), before);
        m.reset();
        Check.due("wild after reset", Check.wild(m), 0);
    }

    private static void refusedWhenFull() {
        BacktrackMatch m = new BacktrackMatch(8, 9, 2);
        for (int p = 0; p < 9; p++) {
            Check.due("wild " + p, Check.wild(m), p);
        }
        Check.due("wild in a full store", Check.wild(m), -1);
        Check.due("as in a full store", Check.as(m, 0, 3), -1);
        Check.due("patterns", m.count(BacktrackMatch.COUNT_PATTERNS), 9);
        Check.due("the child of the refused as is free", Check.plainRow(m, 3), 0);
    }

    private static void usedFlagsStartAnewAfterReset() {
        BacktrackMatch m = Check.declared();
        Check.or(m, Check.wild(m), Check.wild(m));
        Check.plainRow(m, 2);
        m.reset();
        Check.wild(m);
        Check.wild(m);
        Check.wild(m);
        Check.due("or of patterns with used ids", Check.or(m, 1, 0), 3);
        Check.due("row of a pattern with a used id", Check.plainRow(m, 2), 0);
    }

    private static void bothStoresFull() {
        BacktrackMatch m = Check.declared();
        int t = m.term(0, 0, 0);
        for (int n = 1; n < 64; n++) {
            t = m.term(1, t, 0);
        }
        int p = Check.cons(m, 0, 0, 0);
        for (int due = 1; due < 64; due++) {
            p = Check.cons(m, 1, p, 0);
            Check.due("pattern " + due + " with 64 terms", p, due);
        }
        Check.due("a pattern too many", Check.wild(m), -1);
        Check.plainRow(m, p);
        Check.due("the highest pattern and the highest term", m.rowPatternMatches(0, t), true);
        Check.due("the highest pattern and a lower term", m.rowPatternMatches(0, t - 1), false);
    }
}
