/** Promise 14: count tells the five counts, -1 for any other selector, and changes nothing. */
public final class Promise14CountTest {
    public static void main(String[] args) {
        Check.sentence("COUNT_CONS: consCount", Promise14CountTest::constructors);
        Check.sentence("COUNT_TERMS: termCount", Promise14CountTest::terms);
        Check.sentence("COUNT_PATTERNS: patternCount", Promise14CountTest::patterns);
        Check.sentence("COUNT_ROWS: rowCount", Promise14CountTest::rows);
        Check.sentence("COUNT_COMPILED: 1 if compiled else 0", Promise14CountTest::compiled);
        Check.sentence("any other what: -1", Promise14CountTest::otherSelectors);
        Check.sentence("Changes nothing.", Promise14CountTest::changesNothing);
        Check.end();
    }

    private static void dueCounts(String when, BacktrackMatch m, int... due) {
        for (int what = 0; what < due.length; what++) {
            Check.due("count(" + what + ") " + when, m.count(what), due[what]);
        }
    }

    private static void constructors() {
        BacktrackMatch m = new BacktrackMatch(64, 64, 8);
        dueCounts("of a new object", m, 0, 0, 0, 0, 0);
        for (int c = 1; c <= 8; c++) {
            m.defCons(0);
            dueCounts("with " + c + " constructors", m, c, 0, 0, 0, 0);
        }
        m.defCons(0);
        dueCounts("after a refused defCons", m, 8, 0, 0, 0, 0);
    }

    private static void terms() {
        BacktrackMatch m = Check.declared(9, 64, 8);
        m.term(0, 0, 0);
        for (int t = 1; t < 9; t++) {
            m.term(1, t - 1, 0);
            dueCounts("with " + (t + 1) + " terms", m, 4, t + 1, 0, 0, 0);
        }
        m.term(1, 8, 0);
        m.term(1, 7, 0);
        m.term(1, -1, 0);
        dueCounts("after a term too many, a find and a wrong child", m, 4, 9, 0, 0, 0);
    }

    private static void patterns() {
        BacktrackMatch m = Check.declared(64, 10, 8);
        for (int p = 0; p < 10; p++) {
            Check.wild(m);
            dueCounts("with " + (p + 1) + " patterns", m, 4, 0, p + 1, 0, 0);
        }
        Check.wild(m);
        dueCounts("after a pattern too many", m, 4, 0, 10, 0, 0);
        m.reset();
        dueCounts("after reset", m, 4, 0, 0, 0, 0);
    }

    private static void rows() {
        BacktrackMatch m = Check.declared(64, 10, 7);
        Check.fillPatterns(m);
        for (int r = 0; r < 7; r++) {
            Check.plainRow(m, r);
            dueCounts("with " + (r + 1) + " rows", m, 4, 0, 10, r + 1, 0);
        }
        Check.plainRow(m, 7);
        dueCounts("after a row too many", m, 4, 0, 10, 7, 0);
        m.reset();
        dueCounts("after reset", m, 4, 0, 0, 0, 0);
    }

    private static void compiled() {
        BacktrackMatch m = Check.stocked();
        Check.plainRow(m, Check.var(m, 0));
        dueCounts("before compile", m, 4, 6, 2, 1, 0);
        m.compile();
        dueCounts("after compile", m, 4, 6, 2, 1, 1);
        m.compile();
        dueCounts("after a refused compile", m, 4, 6, 2, 1, 1);
        m.match(3);
        m.term(1, 5, 0);
        dueCounts("after a match and a term", m, 4, 7, 2, 1, 1);
        m.reset();
        dueCounts("after reset", m, 4, 7, 0, 0, 0);
    }

    private static void otherSelectors() {
        BacktrackMatch m = Check.matched();
        for (int what : Check.outside(5)) {
            Check.due("count(" + what + ")", m.count(what), -1);
        }
        for (int what = 5; what < 70; what++) {
            Check.due("count(" + what + ")", m.count(what), -1);
            Check.due("count(" + -what + ")", m.count(-what), -1);
        }
    }

    private static void changesNothing() {
        BacktrackMatch m = Check.matched();
        for (int round = 0; round < 2; round++) {
            dueCounts("asked again", m, 4, 6, 11, 3, 1);
        }
        for (int what : Check.outside(5)) {
            m.count(what);
        }
        Check.dueAsMatched(m);
        Check.same("what is left", m, Check.matched());
    }
}
