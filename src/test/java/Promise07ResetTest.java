/** Promise 7: reset removes patterns, rows and results; constructors, terms and capacities stay. */
public final class Promise07ResetTest {
    public static void main(String[] args) {
        Check.sentence("reset() always acts.", Promise07ResetTest::everyPhase);
        Check.sentence("It removes all pattern nodes", Promise07ResetTest::removesPatterns);
        Check.sentence("and rows", Promise07ResetTest::removesRows);
        Check.sentence("sets compiled := false", Promise07ResetTest::opensTheRows);
        Check.sentence("lastRow := NO_MATCH", Promise07ResetTest::clearsLastRow);
        Check.sentence("all bindings := -1", Promise07ResetTest::clearsBindings);
        Check.sentence("and empties the guard log", Promise07ResetTest::emptiesTheLog);
        Check.sentence("Constructors and terms stay", Promise07ResetTest::constructorsAndTermsStay);
        Check.sentence("and so do the capacities", Promise07ResetTest::capacitiesStay);
        Check.sentence("[the new rows have nothing of the old ones]", Promise07ResetTest::oldRowsLeaveNoTrace);
        Check.end();
    }

    /** All 64 patterns, all 8 rows, all 8 guards run and all 8 variables bound to C(B(A), C(A, D)). */
    private static BacktrackMatch filled() {
        BacktrackMatch m = Check.stocked();
        for (int x = 0; x < 7; x++) {
            m.addRow(Check.var(m, x), BacktrackMatch.G_LOW, x, 0);
        }
        int all = Check.wild(m);
        for (int x = 0; x < 8; x++) {
            all = Check.as(m, x, all);
        }
        m.addRow(all, BacktrackMatch.G_SAME, 0, 7);
        Check.fillPatterns(m);
        m.compile();
        m.match(4);
        return m;
    }

    private static void everyPhase() {
        BacktrackMatch fresh = new BacktrackMatch(64, 64, 8);
        fresh.reset();
        Check.same("a new object after reset", fresh, new BacktrackMatch(64, 64, 8));
        BacktrackMatch declared = Check.declared();
        declared.reset();
        Check.same("with constructors, after reset", declared, Check.declared());
        BacktrackMatch open = Check.stocked();
        Check.plainRow(open, Check.var(open, 0));
        Check.wild(open);
        open.reset();
        Check.same("not compiled, after reset", open, Check.stocked());
        BacktrackMatch compiled = Check.stocked();
        compiled.compile();
        compiled.reset();
        Check.same("compiled without rows, after reset", compiled, Check.stocked());
        BacktrackMatch filled = filled();
        filled.reset();
        Check.same("full, compiled and matched, after reset", filled, Check.stocked());
        BacktrackMatch twice = filled();
        twice.reset();
        twice.reset();
        Check.same("after reset twice", twice, Check.stocked());
    }

    private static void removesPatterns() {
        BacktrackMatch m = filled();
        Check.due("patterns before", m.count(BacktrackMatch.COUNT_PATTERNS), 64);
        m.reset();
        Check.due("patterns after", m.count(BacktrackMatch.COUNT_PATTERNS), 0);
        for (int p = 0; p < 64; p++) {
            Check.due("row of pattern " + p, Check.plainRow(m, p), -1);
        }
        Check.due("the next pattern", Check.wild(m), 0);
    }

    private static void removesRows() {
        BacktrackMatch m = filled();
        Check.due("rows before", m.count(BacktrackMatch.COUNT_ROWS), 8);
        m.reset();
        Check.due("rows after", m.count(BacktrackMatch.COUNT_ROWS), 0);
        for (int r = 0; r < 8; r++) {
            Check.due("row " + r + " and C(B(A), C(A, D))", m.rowPatternMatches(r, 4), false);
        }
        Check.due("the next row", Check.plainRow(m, Check.wild(m)), 0);
        m.reset();
        Check.due("compile()", m.compile(), 0);
        Check.due("match", m.match(4), BacktrackMatch.NO_MATCH);
    }

    private static void opensTheRows() {
        BacktrackMatch m = filled();
        m.reset();
        Check.due("compiled", m.count(BacktrackMatch.COUNT_COMPILED), 0);
        Check.due("match", m.match(0), BacktrackMatch.REFUSED);
        Check.due("matchInOrder", m.matchInOrder(0), BacktrackMatch.REFUSED);
        Check.due("compile", m.compile(), 0);
    }

    private static void clearsLastRow() {
        BacktrackMatch m = filled();
        Check.due("lastRow() before", m.lastRow(), 7);
        m.reset();
        Check.due("lastRow() after", m.lastRow(), BacktrackMatch.NO_MATCH);
    }

    private static void clearsBindings() {
        BacktrackMatch m = filled();
        for (int x = 0; x < 8; x++) {
            Check.due("binding(" + x + ") before", m.binding(x), 4);
        }
        m.reset();
        for (int x = 0; x < 8; x++) {
            Check.due("binding(" + x + ") after", m.binding(x), -1);
        }
    }

    private static void emptiesTheLog() {
        BacktrackMatch m = filled();
        Check.due("guardLogLength() before", m.guardLogLength(), 8);
        m.reset();
        Check.due("guardLogLength() after", m.guardLogLength(), 0);
        for (int i = 0; i < 8; i++) {
            Check.due("guardLogAt(" + i + ") after", m.guardLogAt(i), -1);
        }
    }

    private static void constructorsAndTermsStay() {
        BacktrackMatch m = filled();
        m.reset();
        Check.due("the counts", Check.counts(m), "counts -1 4 6 0 0 0 -1");
        Check.due("A", m.term(0, 0, 0), 0);
        Check.due("C(B(A), C(A, D))", m.term(2, 2, 3), 4);
        Check.due("its height", m.termHeight(4), 3);
        Check.due("the next term", m.term(1, 4, 0), 6);
    }

    private static void capacitiesStay() {
        BacktrackMatch m = Check.stocked(9, 10, 2);
        for (int round = 0; round < 3; round++) {
            Check.fillRows(m);
            m.compile();
            m.reset();
            Check.due("the room after reset", Check.room(m), "9 10 2");
        }
    }

    private static void oldRowsLeaveNoTrace() {
        BacktrackMatch m = filled();
        m.reset();
        m.term(1, 1, 0);
        Check.plainRow(m, Check.leaf(m, 0));
        m.addRow(Check.cons(m, 1, Check.var(m, 4), 0), BacktrackMatch.G_HEAD, 4, 0);
        Check.due("compile() of the new rows", m.compile(), 2);
        Check.due("match of A", m.match(0), 0);
        Check.due("match of D", m.match(1), BacktrackMatch.NO_MATCH);
        Check.due("match of B(A)", m.match(2), 1);
        Check.due("binding(4)", m.binding(4), 0);
        Check.due("binding(0)", m.binding(0), -1);
        Check.due("log", m.guardLogLength(), 1);
        Check.due("log entry", m.guardLogAt(0), 1);
        Check.due("match of B(D), built after reset", m.match(6), BacktrackMatch.NO_MATCH);
    }
}
