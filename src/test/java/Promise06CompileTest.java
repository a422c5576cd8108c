/** Promise 6: compile fixes the rows once and leaves all else as it is. */
public final class Promise06CompileTest {
    public static void main(String[] args) {
        Check.sentence("if compiled is already true, the answer is -1 and nothing changes", Promise06CompileTest::secondCallIsRefused);
        Check.sentence("Otherwise compiled := true", Promise06CompileTest::setsCompiled);
        Check.sentence("and the answer is rowCount", Promise06CompileTest::answersTheRows);
        Check.sentence("Zero rows is allowed: then every term gets NO_MATCH.", Promise06CompileTest::zeroRows);
        Check.sentence("The results (lastRow, bindings, guard log) are not changed.", Promise06CompileTest::resultsStay);
        Check.sentence("Constructors, terms, pattern nodes and rows are not changed.", Promise06CompileTest::nothingElseChanges);
        Check.sentence("After compile, pat and addRow are refused until reset.", Promise06CompileTest::fixesTheRowsUntilReset);
        Check.end();
    }

    private static void secondCallIsRefused() {
        BacktrackMatch m = Check.matched();
        Check.due("compile() again", m.compile(), -1);
        Check.due("compile() once more", m.compile(), -1);
        Check.same("what is left after the refusals", m, Check.matched());
        BacktrackMatch empty = new BacktrackMatch(8, 8, 1);
        Check.due("compile() of a new object", empty.compile(), 0);
        Check.due("compile() of it again", empty.compile(), -1);
        Check.due("compiled after the refusal", empty.count(BacktrackMatch.COUNT_COMPILED), 1);
        empty.reset();
        Check.due("compile() after reset", empty.compile(), 0);
    }

    private static void setsCompiled() {
        BacktrackMatch m = Check.stocked();
        Check.due("compiled before", m.count(BacktrackMatch.COUNT_COMPILED), 0);
        Check.due("match before", m.match(0), BacktrackMatch.REFUSED);
        m.compile();
        Check.due("compiled after", m.count(BacktrackMatch.COUNT_COMPILED), 1);
        Check.due("match after", m.match(0), BacktrackMatch.NO_MATCH);
    }

    private static void answersTheRows() {
        for (int rows = 0; rows <= 8; rows++) {
            BacktrackMatch m = Check.declared();
            for (int r = 0; r < rows; r++) {
                Check.plainRow(m, Check.wild(m));
            }
            Check.wild(m);
            Check.due("compile() with " + rows + " rows", m.compile(), rows);
        }
    }

    private static void zeroRows() {
        BacktrackMatch m = Check.stocked();
        Check.wild(m);
        Check.due("compile() without rows", m.compile(), 0);
        for (int t = 0; t < 6; t++) {
            Check.due("match(" + t + ") without rows", m.match(t), BacktrackMatch.NO_MATCH);
            Check.due("matchInOrder(" + t + ") without rows", m.matchInOrder(t), BacktrackMatch.NO_MATCH);
            Check.due("the results", Check.results(m), Check.noResults());
        }
        Check.due("a term built later", m.match(m.term(1, 5, 0)), BacktrackMatch.NO_MATCH);
    }

    /** A compile that is not refused comes first or after reset, so the results are the empty ones. */
    private static void resultsStay() {
        BacktrackMatch m = Check.stocked();
        Check.plainRow(m, Check.var(m, 0));
        m.compile();
        Check.due("the results after the first compile", Check.results(m), Check.noResults());
        m.match(4);
        String before = Check.results(m);
        m.compile();
        Check.due("the results after a refused compile", Check.results(m), before);
        m.reset();
        m.compile();
        Check.due("the results after reset and compile", Check.results(m), Check.noResults());
    }

    private static void nothingElseChanges() {
        BacktrackMatch m = Check.stocked();
        Check.plainRow(m, Check.cons(m, 1, Check.wild(m), 0));
        Check.wild(m);
        String before = Check.termsAndRows(m);
        m.compile();
        Check.due("terms and rows after compile", Check.termsAndRows(m), before);
        Check.due("the counts after compile", Check.counts(m), "counts -1 4 6 3 1 1 -1");
        Check.due("a found term after compile", m.term(2, 2, 3), 4);
    }

    private static void fixesTheRowsUntilReset() {
        BacktrackMatch m = Check.stocked();
        int spare = Check.wild(m);
        m.compile();
        for (int round = 0; round < 2; round++) {
            Check.due("pat after compile", Check.wild(m), -1);
            Check.due("addRow after compile", Check.plainRow(m, spare), -1);
            m.match(0);
            m.compile();
            m.term(1, 5, 0);
        }
        m.reset();
        Check.due("pat after reset", Check.wild(m), 0);
        Check.due("addRow after reset", Check.plainRow(m, 0), 0);
    }
}
