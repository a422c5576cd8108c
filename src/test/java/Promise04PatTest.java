/** Promise 4: pat builds trees, each node used once, and refuses in the order of the document. */
public final class Promise04PatTest {
    public static void main(String[] args) {
        Check.sentence("1. compiled", Promise04PatTest::refusedWhenCompiled);
        Check.sentence("2. patternCount == patternCapacity", Promise04PatTest::refusedWhenFull);
        Check.sentence("3. kind outside 0..3", Promise04PatTest::refusedKinds);
        Check.sentence("a VALID CHILD is an id in 0..patternCount-1", Promise04PatTest::childrenThatAreNotThere);
        Check.sentence("whose used flag is false", Promise04PatTest::childrenThatAreUsed);
        Check.sentence("P_WILD: a, b, c are ignored; nothing to test.", Promise04PatTest::wildIgnoresAll);
        Check.sentence("P_AS: a is the variable and must be in 0..7", Promise04PatTest::variablesOfAs);
        Check.sentence("[P_AS:] b must be a valid child", Promise04PatTest::childOfAs);
        Check.sentence("[P_AS:] c is ignored", Promise04PatTest::asIgnoresC);
        Check.sentence("P_CONS: a is the constructor and must be in 0..consCount-1", Promise04PatTest::constructorsOfCons);
        Check.sentence("if arity(a) >= 1, b must be a valid child", Promise04PatTest::firstChildOfCons);
        Check.sentence("if arity(a) == 2, c must be a valid child", Promise04PatTest::secondChildOfCons);
        Check.sentence("and c != b", Promise04PatTest::childrenOfConsDiffer);
        Check.sentence("Arguments past the arity are ignored.", Promise04PatTest::consIgnoresPastTheArity);
        Check.sentence("[P_OR:] both must be valid children", Promise04PatTest::alternativesOfOr);
        Check.sentence("and a != b", Promise04PatTest::alternativesOfOrDiffer);
        Check.sentence("[P_OR:] c is ignored", Promise04PatTest::orIgnoresC);
        Check.sentence("tests in order, and each refusal answers -1", Promise04PatTest::severalReasons);
        Check.sentence("Otherwise the node gets id patternCount [..] patternCount grows by 1, and the id is the answer.", Promise04PatTest::idsCountUp);
        Check.sentence("each child read in step 4 gets used = true", Promise04PatTest::readChildrenGetUsed);
        Check.sentence("[a child not read stays as it was]", Promise04PatTest::unreadChildrenStayFree);
        Check.sentence("The new node itself starts with used = false.", Promise04PatTest::newNodesAreFree);
        Check.sentence("The new node itself starts with used = false. [where the id was used before reset]",
            Promise04PatTest::newNodesAreFreeAfterReset);
        Check.sentence("Nothing else changes.", Promise04PatTest::nothingElseChanges);
        Check.sentence("A refusal changes nothing, including the used flags.", Promise04PatTest::refusalsLeaveTheUsedFlags);
        Check.sentence("[64 patterns over 64 terms]", Promise04PatTest::bothStoresFull);
        Check.end();
    }

    /** Constructors of declared(); patterns 0 and 1 are used, 2 is their parent and in a row, 3 and 4 are free. */
    private static BacktrackMatch open() {
        return open(64);
    }

    private static BacktrackMatch open(int patternCapacity) {
        BacktrackMatch m = Check.stocked(64, patternCapacity, 8);
        Check.plainRow(m, Check.or(m, Check.wild(m), Check.wild(m)));
        Check.wild(m);
        Check.wild(m);
        return m;
    }

    /** A call of every kind that would be taken in open(). */
    private static void dueEveryKindRefused(String when, BacktrackMatch m) {
        Check.due("wild " + when, Check.wild(m), -1);
        Check.due("as " + when, Check.as(m, 0, 3), -1);
        Check.due("cons of arity 0 " + when, Check.cons(m, 0, 3, 4), -1);
        Check.due("cons of arity 1 " + when, Check.cons(m, 1, 3, 4), -1);
        Check.due("cons of arity 2 " + when, Check.cons(m, 2, 3, 4), -1);
        Check.due("or " + when, Check.or(m, 3, 4), -1);
    }

    private static BacktrackMatch compiled() {
        BacktrackMatch m = open();
        m.compile();
        return m;
    }

    private static void refusedWhenCompiled() {
        BacktrackMatch m = compiled();
        dueEveryKindRefused("when compiled", m);
        Check.same("what is left after the refusals", m, compiled());
        m = compiled();
        m.reset();
        Check.due("wild after reset", Check.wild(m), 0);
        BacktrackMatch empty = Check.declared();
        empty.compile();
        Check.due("wild when compiled without rows", Check.wild(empty), -1);
    }

    private static BacktrackMatch full() {
        BacktrackMatch m = open(9);
        Check.fillPatterns(m);
        return m;
    }

    private static void refusedWhenFull() {
        BacktrackMatch m = full();
        dueEveryKindRefused("in a full store", m);
        Check.same("what is left after the refusals", m, full());
        for (int capacity = 8; capacity <= 64; capacity++) {
            BacktrackMatch wilds = new BacktrackMatch(8, capacity, 1);
            for (int p = 0; p < capacity; p++) {
                Check.due("wild " + p + " of " + capacity, Check.wild(wilds), p);
            }
            Check.due("wild too many for " + capacity, Check.wild(wilds), -1);
            Check.due("patterns", wilds.count(BacktrackMatch.COUNT_PATTERNS), capacity);
        }
    }

    private static void refusedKinds() {
        BacktrackMatch m = open();
        for (int kind : Check.outside(4)) {
            Check.due("pat(" + kind + ", 3, 4, 0)", m.pat(kind, 3, 4, 0), -1);
            Check.due("pat(" + kind + ", 0, 3, 4)", m.pat(kind, 0, 3, 4), -1);
        }
        Check.same("what is left after the refusals", m, open());
    }

    /** Every place for a child must refuse this one; 3 would do for the other place. */
    private static void dueNoChild(BacktrackMatch m, int q) {
        Check.due("as of child " + q, Check.as(m, 0, q), -1);
        Check.due("arity 1 of child " + q, Check.cons(m, 1, q, 3), -1);
        Check.due("arity 2 of child 0 " + q, Check.cons(m, 2, q, 3), -1);
        Check.due("arity 2 of child 1 " + q, Check.cons(m, 2, 3, q), -1);
        Check.due("or of alternative q " + q, Check.or(m, q, 3), -1);
        Check.due("or of alternative r " + q, Check.or(m, 3, q), -1);
    }

    private static void childrenThatAreNotThere() {
        BacktrackMatch m = open();
        for (int q : Check.outside(5)) {
            dueNoChild(m, q);
        }
        Check.same("what is left after the refusals", m, open());
        BacktrackMatch empty = Check.declared();
        for (int q : Check.outside(0)) {
            dueNoChild(empty, q);
        }
        Check.same("what is left of an object without patterns", empty, Check.declared());
        BacktrackMatch emptied = open();
        emptied.reset();
        for (int q = 0; q < 5; q++) {
            dueNoChild(emptied, q);
        }
        Check.same("what is left after reset and the refusals", emptied, Check.stocked());
    }

    private static void childrenThatAreUsed() {
        BacktrackMatch m = open();
        for (int q = 0; q <= 2; q++) {
            dueNoChild(m, q);
        }
        Check.same("what is left after the refusals", m, open());
    }

    private static void wildIgnoresAll() {
        for (int odd : Check.outside(0)) {
            BacktrackMatch m = Check.declared();
            Check.due("pat(0, " + odd + ", 0, 0)", m.pat(BacktrackMatch.P_WILD, odd, 0, 0), 0);
            Check.due("pat(0, 0, " + odd + ", 0)", m.pat(BacktrackMatch.P_WILD, 0, odd, 0), 1);
            Check.due("pat(0, 0, 0, " + odd + ")", m.pat(BacktrackMatch.P_WILD, 0, 0, odd), 2);
        }
    }

    private static void variablesOfAs() {
        BacktrackMatch m = open();
        for (int x : Check.outside(BacktrackMatch.NUM_VARS)) {
            Check.due("as of variable " + x, Check.as(m, x, 3), -1);
        }
        Check.same("what is left after the refusals", m, open());
        m = open();
        int p = 3;
        for (int x = 0; x < BacktrackMatch.NUM_VARS; x++) {
            p = Check.as(m, x, p);
            Check.due("as of variable " + x, p, 5 + x);
        }
    }

    private static void childOfAs() {
        BacktrackMatch m = open();
        for (int q : new int[] {Integer.MIN_VALUE, -1, 0, 1, 2, 5, 6, Integer.MAX_VALUE}) {
            Check.due("as of child " + q, Check.as(m, 7, q), -1);
        }
        Check.due("as of child 3", Check.as(m, 7, 3), 5);
        Check.due("as of child 4", Check.as(m, 7, 4), 6);
    }

    private static void asIgnoresC() {
        for (int odd : Check.outside(5)) {
            Check.due("as with c = " + odd, open().pat(BacktrackMatch.P_AS, 0, 3, odd), 5);
        }
        Check.due("as with c = b", open().pat(BacktrackMatch.P_AS, 0, 3, 3), 5);
        Check.due("as with a used c", open().pat(BacktrackMatch.P_AS, 0, 3, 0), 5);
    }

    private static void constructorsOfCons() {
        BacktrackMatch m = open();
        for (int c : Check.outside(4)) {
            Check.due("cons of constructor " + c, Check.cons(m, c, 3, 4), -1);
        }
        for (int c = 4; c <= 8; c++) {
            Check.due("cons of constructor " + c, Check.cons(m, c, 3, 4), -1);
        }
        Check.same("what is left after the refusals", m, open());
        BacktrackMatch none = new BacktrackMatch(64, 64, 8);
        Check.wild(none);
        for (int c : Check.outside(0)) {
            Check.due("cons of constructor " + c + " where there is none", Check.cons(none, c, 0, 0), -1);
        }
        BacktrackMatch eight = Check.declared();
        for (int n = 4; n < 8; n++) {
            eight.defCons(0);
        }
        Check.due("cons of constructor 7 of eight", Check.leaf(eight, 7), 0);
        Check.due("cons of constructor 8 of eight", Check.leaf(eight, 8), -1);
    }

    private static void firstChildOfCons() {
        BacktrackMatch m = open();
        for (int q : new int[] {Integer.MIN_VALUE, -1, 0, 1, 2, 5, 6, Integer.MAX_VALUE}) {
            Check.due("arity 1 of child " + q, Check.cons(m, 1, q, 3), -1);
            Check.due("arity 2 of child 0 " + q, Check.cons(m, 2, q, 3), -1);
        }
        Check.due("arity 1 of child 3", Check.cons(m, 1, 3, -1), 5);
        Check.due("arity 2 of child 0 4", Check.cons(m, 2, 4, 5), 6);
    }

    private static void secondChildOfCons() {
        BacktrackMatch m = open();
        for (int q : new int[] {Integer.MIN_VALUE, -1, 0, 1, 2, 5, 6, Integer.MAX_VALUE}) {
            Check.due("arity 2 of child 1 " + q, Check.cons(m, 2, 3, q), -1);
        }
        Check.due("arity 2 of child 1 3", Check.cons(m, 2, 4, 3), 5);
    }

    private static void childrenOfConsDiffer() {
        BacktrackMatch m = open();
        Check.due("arity 2 of twice 3", Check.cons(m, 2, 3, 3), -1);
        Check.due("arity 2 of twice 4", Check.cons(m, 2, 4, 4), -1);
        Check.same("what is left after the refusals", m, open());
        Check.due("arity 2 of 3 and 4", Check.cons(open(), 2, 3, 4), 5);
        Check.due("arity 2 of 4 and 3", Check.cons(open(), 2, 4, 3), 5);
    }

    private static void consIgnoresPastTheArity() {
        for (int odd : Check.outside(5)) {
            Check.due("arity 0 with b = " + odd, Check.cons(open(), 0, odd, 3), 5);
            Check.due("arity 0 with c = " + odd, Check.cons(open(), 0, 3, odd), 5);
            Check.due("arity 1 with c = " + odd, Check.cons(open(), 1, 3, odd), 5);
        }
        for (int used = 0; used <= 2; used++) {
            Check.due("arity 0 with used " + used, Check.cons(open(), 0, used, used), 5);
            Check.due("arity 1 with a used c " + used, Check.cons(open(), 1, 3, used), 5);
        }
        Check.due("arity 0 with c = b", Check.cons(open(), 0, 3, 3), 5);
        Check.due("arity 1 with c = b", Check.cons(open(), 1, 3, 3), 5);
    }

    private static void alternativesOfOr() {
        BacktrackMatch m = open();
        for (int q : new int[] {Integer.MIN_VALUE, -1, 0, 1, 2, 5, 6, Integer.MAX_VALUE}) {
            Check.due("or of " + q + " and 3", Check.or(m, q, 3), -1);
            Check.due("or of 3 and " + q, Check.or(m, 3, q), -1);
            Check.due("or of twice " + q, Check.or(m, q, q), -1);
        }
        Check.due("or of 4 and 3", Check.or(m, 4, 3), 5);
    }

    private static void alternativesOfOrDiffer() {
        BacktrackMatch m = open();
        Check.due("or of twice 3", Check.or(m, 3, 3), -1);
        Check.due("or of twice 4", Check.or(m, 4, 4), -1);
        Check.same("what is left after the refusals", m, open());
    }

    private static void orIgnoresC() {
        for (int odd : Check.outside(5)) {
            Check.due("or with c = " + odd, open().pat(BacktrackMatch.P_OR, 3, 4, odd), 5);
        }
        Check.due("or with c = a", open().pat(BacktrackMatch.P_OR, 3, 4, 3), 5);
        Check.due("or with c = b", open().pat(BacktrackMatch.P_OR, 3, 4, 4), 5);
        Check.due("or with a used c", open().pat(BacktrackMatch.P_OR, 3, 4, 0), 5);
    }

    private static BacktrackMatch fullAndCompiled() {
        BacktrackMatch m = full();
        m.compile();
        return m;
    }

    /** All refusals answer -1 alike; what must not happen is that a later test is made on what an earlier one ruled out. */
    private static void severalReasons() {
        BacktrackMatch m = fullAndCompiled();
        BacktrackMatch full = full();
        BacktrackMatch open = open();
        for (int wrong : Check.outside(9)) {
            for (int kind : new int[] {wrong, 1, 2, 3}) {
                Check.due("compiled, full and pat(" + kind + ", " + wrong + "..)", m.pat(kind, wrong, wrong, wrong), -1);
                Check.due("full and pat(" + kind + ", " + wrong + "..)", full.pat(kind, wrong, wrong, wrong), -1);
                Check.due("pat(" + kind + ", " + wrong + "..)", open.pat(kind, wrong, wrong, wrong), -1);
            }
        }
        Check.same("what is left of the full and compiled one", m, fullAndCompiled());
        Check.same("what is left of the full one", full, full());
        Check.same("what is left of the open one", open, open());
    }

    private static void idsCountUp() {
        BacktrackMatch m = Check.declared();
        Check.due("wild", Check.wild(m), 0);
        Check.due("as", Check.as(m, 7, 0), 1);
        Check.due("cons of arity 1", Check.cons(m, 1, 1, 0), 2);
        Check.due("cons of arity 0", Check.leaf(m, 0), 3);
        Check.due("cons of arity 2", Check.cons(m, 2, 3, 2), 4);
        Check.due("wild", Check.wild(m), 5);
        Check.due("or", Check.or(m, 5, 4), 6);
        Check.due("patterns", m.count(BacktrackMatch.COUNT_PATTERNS), 7);
    }

    private static void readChildrenGetUsed() {
        BacktrackMatch m = Check.declared();
        for (int p = 0; p < 7; p++) {
            Check.wild(m);
        }
        Check.as(m, 0, 0);
        Check.cons(m, 1, 1, 0);
        Check.cons(m, 2, 2, 4);
        Check.or(m, 5, 6);
        for (int used : new int[] {0, 1, 2, 4, 5, 6}) {
            dueNoChild(m, used);
            Check.due("row of used " + used, Check.plainRow(m, used), -1);
        }
        Check.due("row of 3, still free", Check.plainRow(m, 3), 0);
    }

    private static void unreadChildrenStayFree() {
        BacktrackMatch m = Check.declared();
        for (int p = 0; p < 3; p++) {
            Check.wild(m);
        }
        Check.due("wild naming 0, 1 and 2", m.pat(BacktrackMatch.P_WILD, 0, 1, 2), 3);
        Check.due("arity 0 naming 1 and 2", m.pat(BacktrackMatch.P_CONS, 0, 1, 2), 4);
        Check.due("arity 1 of 0, naming 2", m.pat(BacktrackMatch.P_CONS, 1, 0, 2), 5);
        Check.due("as of 5, naming 1 as variable and 2", m.pat(BacktrackMatch.P_AS, 1, 5, 2), 6);
        Check.due("or of 6 and 4, naming 2", m.pat(BacktrackMatch.P_OR, 6, 4, 2), 7);
        Check.due("wild naming 2, 1 and 3", m.pat(BacktrackMatch.P_WILD, 2, 1, 3), 8);
        Check.due("wild naming 1, 3 and 2", m.pat(BacktrackMatch.P_WILD, 1, 3, 2), 9);
        Check.due("row of 1", Check.plainRow(m, 1), 0);
        Check.due("row of 2", Check.plainRow(m, 2), 1);
        Check.due("row of 3", Check.plainRow(m, 3), 2);
    }

    private static void newNodesAreFree() {
        BacktrackMatch m = Check.declared();
        for (int p = 0; p < 5; p++) {
            Check.wild(m);
        }
        Check.due("row of a wild", Check.plainRow(m, 0), 0);
        Check.due("row of an as", Check.plainRow(m, Check.as(m, 0, 1)), 1);
        Check.due("row of an arity 0", Check.plainRow(m, Check.leaf(m, 0)), 2);
        Check.due("row of an arity 1", Check.plainRow(m, Check.cons(m, 1, 2, 0)), 3);
        Check.due("row of an or", Check.plainRow(m, Check.or(m, 3, 4)), 4);
        Check.due("row of an arity 2", Check.plainRow(m, Check.cons(m, 2, Check.wild(m), Check.wild(m))), 5);
    }

    private static void newNodesAreFreeAfterReset() {
        BacktrackMatch m = open();
        m.reset();
        for (int p = 0; p < 4; p++) {
            Check.due("wild " + p, Check.wild(m), p);
        }
        Check.due("or of ids that were children", Check.or(m, 1, 0), 4);
        Check.due("row of an id that was in a row", Check.plainRow(m, 2), 0);
    }

    private static void nothingElseChanges() {
        BacktrackMatch m = open();
        String before = Check.results(m) + Check.termsAndRows(m);
        Check.due("as", Check.as(m, 0, 3), 5);
        Check.due("cons", Check.cons(m, 2, 5, 4), 6);
        Check.due("the results, terms and rows", Check.results(m) + Check.termsAndRows(m), before);
        Check.due("the counts", Check.counts(m), "counts -1 4 6 7 1 0 -1");
    }

    /** The first child would do, so it must not be marked before the second one is looked at. */
    private static void refusalsLeaveTheUsedFlags() {
        BacktrackMatch m = open();
        for (int wrong : Check.outside(5)) {
            Check.cons(m, 2, 3, wrong);
            Check.cons(m, 2, wrong, 3);
            Check.cons(m, wrong, 3, 4);
            Check.or(m, 3, wrong);
            Check.or(m, wrong, 3);
            Check.as(m, wrong < 8 && wrong >= 0 ? 8 : wrong, 3);
            m.pat(wrong, 3, 4, 3);
        }
        Check.cons(m, 2, 3, 3);
        Check.cons(m, 2, 3, 0);
        Check.or(m, 4, 4);
        Check.or(m, 4, 1);
        Check.due("or of 3 and 4 after the refusals", Check.or(m, 3, 4), 5);
        Check.due("as of used 0 after the refusals", Check.as(m, 0, 0), -1);
    }

    private static void bothStoresFull() {
        BacktrackMatch m = Check.declared();
        m.term(0, 0, 0);
        for (int t = 1; t < 64; t++) {
            m.term(1, t - 1, 0);
        }
        int p = Check.leaf(m, 0);
        for (int due = 1; due < 64; due++) {
            p = Check.cons(m, 1, p, 0);
            Check.due("pattern " + due + " with 64 terms", p, due);
        }
        Check.due("a pattern too many", Check.wild(m), -1);
        Check.plainRow(m, p);
        for (int t = 0; t < 64; t++) {
            Check.due("the highest pattern and term " + t, m.rowPatternMatches(0, t), t == 63);
        }
    }
}
