/** Promise 6: compile fixes the rows once and leaves all else as it is. */
public final class Promise06CompileTest {
    public static void main(String[] args) {
        answersTheRows();
        zeroRows();
        secondCallIsRefused();
        nothingElseChanges();
        fixesTheRowsUntilReset();
        Check.end();
    }

    private static void answersTheRows() {
        for (int rows = 0; rows <= 8; rows++) {
            BacktrackMatch m = Check.declared();
            for (int r = 0; r < rows; r++) {
                Check.plainRow(m, Check.wild(m));
            }
            Check.wild(m);
            Check.due("compile() with " + rows + " rows", m.compile(), rows);
            Check.due("compiled", m.count(BacktrackMatch.COUNT_COMPILED), 1);
        }
    }

    private static void zeroRows() {
        BacktrackMatch m = Check.stocked();
        Check.due("compile() without rows", m.compile(), 0);
        for (int t = 0; t < 6; t++) {
            Check.due("match(" + t + ") without rows", m.match(t), BacktrackMatch.NO_MATCH);
        }
    }

    private static void secondCallIsRefused() {
        BacktrackMatch m = Check.stocked();
        m.addRow(Check.var(m, 3), BacktrackMatch.G_HEAD, 3, 2);
        m.compile();
        m.match(4);
        String before = Check.picture(m);
        Check.due("compile() again", m.compile(), -1);
        Check.due("compile() once more", m.compile(), -1);
        Check.due("the picture after refusals", Check.picture(m), before);
        m.reset();
        Check.due("compile() after reset", m.compile(), 0);
    }

    private static void nothingElseChanges() {
        BacktrackMatch m = Check.stocked();
        Check.plainRow(m, Check.cons(m, 1, Check.wild(m), 0));
        Check.wild(m);
        String before = Check.picture(m);
        m.compile();
        String due = before.replace("counts -1 4 6 3 1 0 -1", "counts -1 4 6 3 1 1 -1");
        Check.due("the picture after compile", Check.picture(m), due);
        Check.due("the picture changed in one place", before.equals(due), false);
    }

    private static void fixesTheRowsUntilReset() {
        BacktrackMatch m = Check.stocked();
        int spare = Check.wild(m);
        m.compile();
        Check.due("pat after compile", Check.wild(m), -1);
        Check.due("addRow after compile", Check.plainRow(m, spare), -1);
        m.reset();
        Check.due("pat after reset", Check.wild(m), 0);
        Check.due("addRow after reset", Check.plainRow(m, 0), 0);
    }
}
