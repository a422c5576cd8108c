/** Promise 9: rowPatternMatches looks at the pattern alone, in every phase, and changes nothing. */
public final class Promise09RowPatternMatchesTest {
    private static final String[] FITS = {"111111", "100000", "000101", "000100", "011000", "000000"};

    public static void main(String[] args) {
        Check.sentence("answers true iff r is in 0..rowCount-1, t is in 0..termCount-1 and row r's pattern matches t",
            Promise09RowPatternMatchesTest::rowsAndTerms);
        Check.sentence("The guard is not looked at.", Promise09RowPatternMatchesTest::guardsAreNotLookedAt);
        Check.sentence("Any other r [..] answers false.", Promise09RowPatternMatchesTest::otherRows);
        Check.sentence("Any other [..] t answers false.", Promise09RowPatternMatchesTest::otherTerms);
        Check.sentence("Any other r or t answers false. [both at once]", Promise09RowPatternMatchesTest::otherRowsAndTerms);
        Check.sentence("It is allowed in any phase, compiled or not", Promise09RowPatternMatchesTest::everyPhase);
        Check.sentence("and changes nothing", Promise09RowPatternMatchesTest::changesNothing);
        Check.end();
    }

    private static BacktrackMatch six() {
        BacktrackMatch m = Check.stocked();
        Check.plainRow(m, Check.wild(m));
        Check.plainRow(m, Check.leaf(m, 0));
        Check.failingRow(m, Check.cons(m, 2, Check.leaf(m, 0), Check.wild(m)));
        Check.plainRow(m, Check.cons(m, 2, Check.wild(m), Check.leaf(m, 3)));
        Check.plainRow(m, Check.or(m, Check.leaf(m, 3), Check.cons(m, 1, Check.wild(m), 0)));
        Check.plainRow(m, Check.as(m, 0, Check.cons(m, 1, Check.leaf(m, 3), 0)));
        return m;
    }

    private static void dueFits(String when, BacktrackMatch m) {
        for (int r = 0; r < FITS.length; r++) {
            for (int t = 0; t < 6; t++) {
                Check.due("rowPatternMatches(" + r + ", " + t + ") " + when, m.rowPatternMatches(r, t), FITS[r].charAt(t) == '1');
            }
        }
    }

    private static void rowsAndTerms() {
        dueFits("before compile", six());
        BacktrackMatch full = Check.declared();
        Check.fillTerms(full);
        Check.fillPatterns(full);
        for (int r = 0; r < 8; r++) {
            Check.plainRow(full, 63 - r);
        }
        Check.due("the last row and the last term", full.rowPatternMatches(7, 63), true);
        Check.due("one row more", full.rowPatternMatches(8, 63), false);
        Check.due("one term more", full.rowPatternMatches(7, 64), false);
    }

    private static void guardsAreNotLookedAt() {
        BacktrackMatch m = Check.stocked();
        int[][] guards = {
            {BacktrackMatch.G_SAME, 1, 2}, {BacktrackMatch.G_DIFF, 0, 0}, {BacktrackMatch.G_HEAD, 0, 1}, {BacktrackMatch.G_LOW, 0, 0},
        };
        for (int[] guard : guards) {
            m.addRow(Check.as(m, 0, Check.leaf(m, 0)), guard[0], guard[1], guard[2]);
        }
        m.compile();
        Check.due("A, for which every guard fails", m.match(0), BacktrackMatch.NO_MATCH);
        for (int r = 0; r < guards.length; r++) {
            Check.due("row " + r + " and A", m.rowPatternMatches(r, 0), true);
            Check.due("row " + r + " and D", m.rowPatternMatches(r, 1), false);
        }
    }

    private static void otherRows() {
        for (int r : Check.outside(6)) {
            for (int t = 0; t < 6; t++) {
                Check.due("row " + r + " and term " + t, six().rowPatternMatches(r, t), false);
            }
        }
        BacktrackMatch none = Check.stocked();
        Check.wild(none);
        for (int r : Check.outside(0)) {
            Check.due("row " + r + " where there is none", none.rowPatternMatches(r, 0), false);
        }
    }

    private static void otherTerms() {
        for (int t : Check.outside(6)) {
            for (int r = 0; r < 6; r++) {
                Check.due("row " + r + " and term " + t, six().rowPatternMatches(r, t), false);
            }
        }
        BacktrackMatch none = Check.declared();
        Check.plainRow(none, Check.wild(none));
        for (int t : Check.outside(0)) {
            Check.due("term " + t + " where there is none", none.rowPatternMatches(0, t), false);
        }
    }

    private static void otherRowsAndTerms() {
        BacktrackMatch m = six();
        BacktrackMatch fresh = new BacktrackMatch(8, 8, 1);
        for (int r : Check.outside(6)) {
            for (int t : Check.outside(6)) {
                Check.due("row " + r + " and term " + t, m.rowPatternMatches(r, t), false);
                Check.due("row " + r + " and term " + t + " of a new object", fresh.rowPatternMatches(r, t), false);
            }
        }
    }

    private static void everyPhase() {
        BacktrackMatch m = six();
        dueFits("before compile", m);
        m.compile();
        dueFits("after compile", m);
        m.match(3);
        dueFits("after a match", m);
        int later = m.term(1, 1, 0);
        Check.due("B(D), built after compile, and the wildcard", m.rowPatternMatches(0, later), true);
        Check.due("B(D) and A", m.rowPatternMatches(1, later), false);
        Check.due("B(D) and D or B(_)", m.rowPatternMatches(4, later), true);
        Check.due("B(D) and B(D)", m.rowPatternMatches(5, later), true);
        m.reset();
        Check.due("after reset", m.rowPatternMatches(0, 0), false);
    }

    private static void changesNothing() {
        BacktrackMatch m = Check.matched();
        BacktrackMatch open = six();
        for (int r : Check.outside(0)) {
            for (int t : Check.outside(5)) {
                m.rowPatternMatches(r, t);
                open.rowPatternMatches(r, t);
            }
        }
        dueFits("asked before", open);
        for (int t = 0; t < 6; t++) {
            m.rowPatternMatches(2, t);
        }
        Check.dueAsMatched(m);
        Check.same("what is left", m, Check.matched());
        Check.same("what is left before compile", open, six());
    }
}
