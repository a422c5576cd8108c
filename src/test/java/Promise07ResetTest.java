/** Promise 7: reset removes patterns, rows and results; constructors, terms and capacities stay. */
public final class Promise07ResetTest {
    public static void main(String[] args) {
        afterAMatch();
        beforeCompile();
        onANewObject();
        oldRowsLeaveNoTrace();
        capacitiesStay();
        Check.end();
    }

    private static void afterAMatch() {
        BacktrackMatch fresh = Check.stocked();
        BacktrackMatch m = Check.stocked();
        fillAndMatch(m);
        m.reset();
        Check.due("the picture after reset", Check.picture(m), Check.picture(fresh));
        Check.due("match after reset", m.match(0), BacktrackMatch.REFUSED);
        Check.due("a term found after reset", m.term(2, 2, 3), 4);
        m.reset();
        Check.due("the picture after reset again", Check.picture(m), Check.picture(fresh));
    }

    private static void fillAndMatch(BacktrackMatch m) {
        for (int x = 0; x < 7; x++) {
            m.addRow(Check.var(m, x), BacktrackMatch.G_LOW, x, 0);
        }
        int all = Check.wild(m);
        for (int x = 0; x < 8; x++) {
            all = Check.as(m, x, all);
        }
        m.addRow(all, BacktrackMatch.G_SAME, 0, 7);
        m.compile();
        Check.due("match before reset", m.match(4), 7);
        Check.due("log before reset", m.guardLogLength(), 8);
        Check.due("binding before reset", m.binding(7), 4);
    }

    private static void beforeCompile() {
        BacktrackMatch m = Check.stocked();
        Check.plainRow(m, Check.wild(m));
        Check.wild(m);
        m.reset();
        Check.due("the picture after reset", Check.picture(m), Check.picture(Check.stocked()));
        Check.due("compile() after reset", m.compile(), 0);
    }

    private static void onANewObject() {
        BacktrackMatch m = new BacktrackMatch(64, 64, 8);
        String before = Check.picture(m);
        m.reset();
        Check.due("the picture after reset", Check.picture(m), before);
        Check.due("defCons after reset", m.defCons(0), 0);
    }

    private static void oldRowsLeaveNoTrace() {
        BacktrackMatch m = Check.stocked();
        fillAndMatch(m);
        m.reset();
        Check.plainRow(m, Check.cons(m, 0, 0, 0));
        m.addRow(Check.cons(m, 1, Check.var(m, 4), 0), BacktrackMatch.G_HEAD, 4, 0);
        Check.due("compile() of the new rows", m.compile(), 2);
        Check.due("match of A", m.match(0), 0);
        Check.due("match of D", m.match(1), BacktrackMatch.NO_MATCH);
        Check.due("match of B(A)", m.match(2), 1);
        Check.due("binding(4)", m.binding(4), 0);
        Check.due("binding(0)", m.binding(0), -1);
        Check.due("log", m.guardLogLength(), 1);
        Check.due("log entry", m.guardLogAt(0), 1);
        Check.due("an old row", m.rowPatternMatches(2, 0), false);
    }

    private static void capacitiesStay() {
        BacktrackMatch m = new BacktrackMatch(8, 9, 2);
        m.reset();
        for (int p = 0; p < 9; p++) {
            Check.due("wild " + p, Check.wild(m), p);
        }
        Check.due("wild past the capacity", Check.wild(m), -1);
        Check.plainRow(m, 0);
        Check.plainRow(m, 1);
        Check.due("row past the capacity", Check.plainRow(m, 2), -1);
    }
}
