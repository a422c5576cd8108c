/** Promise 12: the guard log has an entry for each guard run, and -1 stands outside it. */
public final class Promise12GuardLogTest {
    public static void main(String[] args) {
        fullLog();
        entriesOutsideAreNotThere();
        rowsWithoutGuardAreNotLogged();
        Check.end();
    }

    private static void fullLog() {
        BacktrackMatch m = Check.stocked();
        for (int r = 0; r < 8; r++) {
            m.addRow(Check.var(m, r), BacktrackMatch.G_LOW, r, 0);
        }
        m.compile();
        for (int round = 0; round < 3; round++) {
            Check.due("match", m.match(round), BacktrackMatch.NO_MATCH);
            Check.due("guardLogLength()", m.guardLogLength(), 8);
            for (int i = 0; i < 8; i++) {
                Check.due("guardLogAt(" + i + ")", m.guardLogAt(i), i);
            }
            Check.due("guardLogAt(8)", m.guardLogAt(8), -1);
        }
    }

    private static void entriesOutsideAreNotThere() {
        BacktrackMatch m = Check.stocked();
        m.addRow(Check.cons(m, 0, 0, 0), BacktrackMatch.G_SAME, 0, 0);
        m.addRow(Check.cons(m, 2, Check.wild(m), Check.wild(m)), BacktrackMatch.G_SAME, 0, 0);
        m.addRow(Check.wild(m), BacktrackMatch.G_SAME, 0, 0);
        m.compile();
        Check.due("guardLogAt(0) before any match", m.guardLogAt(0), -1);
        m.match(3);
        Check.due("guardLogLength()", m.guardLogLength(), 2);
        Check.due("guardLogAt(0)", m.guardLogAt(0), 1);
        Check.due("guardLogAt(1)", m.guardLogAt(1), 2);
        m.match(1);
        Check.due("guardLogLength() of a shorter log", m.guardLogLength(), 1);
        Check.due("guardLogAt(0) of a shorter log", m.guardLogAt(0), 2);
        Check.due("guardLogAt(1) of a shorter log", m.guardLogAt(1), -1);
        String before = Check.picture(m);
        for (int i : Check.OUTSIDE_INTS) {
            Check.due("guardLogAt(" + i + ")", m.guardLogAt(i), -1);
        }
        Check.due("the picture after that", Check.picture(m), before);
        m.match(-1);
        Check.due("guardLogLength() after a refused match", m.guardLogLength(), 1);
        m.reset();
        Check.due("guardLogLength() after reset", m.guardLogLength(), 0);
        Check.due("guardLogAt(0) after reset", m.guardLogAt(0), -1);
    }

    private static void rowsWithoutGuardAreNotLogged() {
        BacktrackMatch m = Check.stocked();
        m.addRow(Check.var(m, 0), BacktrackMatch.G_LOW, 0, 1);
        Check.plainRow(m, Check.wild(m));
        m.compile();
        m.match(0);
        Check.due("a guard that holds is logged", m.guardLogLength(), 1);
        m.match(2);
        Check.due("a row without guard is not", m.guardLogLength(), 1);
        Check.due("the entry is the failed row", m.guardLogAt(0), 0);
    }
}
