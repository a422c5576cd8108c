/** Promise 5: addRow appends rows and refuses in the order of the document. */
public final class Promise05AddRowTest {
    private static final int[] NOT_VARIABLES = {-1, 8, 9, Integer.MIN_VALUE, Integer.MAX_VALUE};
    private static final int[] NOT_CONSTRUCTORS = {-1, 4, 8, Integer.MIN_VALUE, Integer.MAX_VALUE};

    public static void main(String[] args) {
        indexesCountUp();
        wrongPatterns();
        wrongGuards();
        ignoredGuardArguments();
        guardEdgesAreTaken();
        refusalsLeaveThePatternFree();
        refusedWhenCompiled();
        lowBounds();
        Check.end();
    }

    private static void indexesCountUp() {
        BacktrackMatch m = Check.declared();
        for (int r = 0; r < 8; r++) {
            Check.due("row " + r, Check.plainRow(m, Check.wild(m)), r);
            Check.due("rows", m.count(BacktrackMatch.COUNT_ROWS), r + 1);
        }
        int spare = Check.wild(m);
        Check.due("the ninth row", Check.plainRow(m, spare), -1);
        Check.due("rows", m.count(BacktrackMatch.COUNT_ROWS), 8);
        Check.due("the pattern of the ninth row is free", Check.as(m, 0, spare), spare + 1);
    }

    private static void wrongPatterns() {
        BacktrackMatch m = Check.declared();
        Check.due("row of pattern 0 where there is none", Check.plainRow(m, 0), -1);
        Check.wild(m);
        Check.as(m, 0, 0);
        String before = Check.picture(m);
        for (int p : Check.OUTSIDE_INTS) {
            Check.due("row of pattern " + p, Check.plainRow(m, p), -1);
        }
        Check.due("row of pattern 2", Check.plainRow(m, 2), -1);
        Check.due("row of a used pattern", Check.plainRow(m, 0), -1);
        Check.due("the picture after refusals", Check.picture(m), before);
        Check.due("row of the root", Check.plainRow(m, 1), 0);
        Check.due("row of the root again", Check.plainRow(m, 1), -1);
    }

    private static void wrongGuards() {
        BacktrackMatch m = Check.declared();
        Check.wild(m);
        for (int kind : new int[] {-1, 5, 6, Integer.MIN_VALUE, Integer.MAX_VALUE}) {
            Check.due("guard kind " + kind, m.addRow(0, kind, 0, 0), -1);
        }
        for (int x : NOT_VARIABLES) {
            Check.due("same " + x + " 0", m.addRow(0, BacktrackMatch.G_SAME, x, 0), -1);
            Check.due("same 0 " + x, m.addRow(0, BacktrackMatch.G_SAME, 0, x), -1);
            Check.due("diff " + x + " 0", m.addRow(0, BacktrackMatch.G_DIFF, x, 0), -1);
            Check.due("diff 0 " + x, m.addRow(0, BacktrackMatch.G_DIFF, 0, x), -1);
            Check.due("head " + x + " 0", m.addRow(0, BacktrackMatch.G_HEAD, x, 0), -1);
            Check.due("low " + x + " 0", m.addRow(0, BacktrackMatch.G_LOW, x, 0), -1);
        }
        for (int c : NOT_CONSTRUCTORS) {
            Check.due("head 0 " + c, m.addRow(0, BacktrackMatch.G_HEAD, 0, c), -1);
        }
        Check.due("rows", m.count(BacktrackMatch.COUNT_ROWS), 0);
    }

    private static void ignoredGuardArguments() {
        BacktrackMatch m = Check.stocked();
        Check.due("no guard with odd arguments",
            m.addRow(Check.wild(m), BacktrackMatch.G_NONE, Integer.MIN_VALUE, Integer.MAX_VALUE), 0);
        m.compile();
        Check.due("match", m.match(0), 0);
    }

    private static void guardEdgesAreTaken() {
        BacktrackMatch m = Check.declared();
        Check.due("same 7 0", m.addRow(Check.wild(m), BacktrackMatch.G_SAME, 7, 0), 0);
        Check.due("diff 0 7", m.addRow(Check.wild(m), BacktrackMatch.G_DIFF, 0, 7), 1);
        Check.due("same 7 7", m.addRow(Check.wild(m), BacktrackMatch.G_SAME, 7, 7), 2);
        Check.due("head 7 3", m.addRow(Check.wild(m), BacktrackMatch.G_HEAD, 7, 3), 3);
        Check.due("head 0 0", m.addRow(Check.wild(m), BacktrackMatch.G_HEAD, 0, 0), 4);
        Check.due("low 7, least int", m.addRow(Check.wild(m), BacktrackMatch.G_LOW, 7, Integer.MIN_VALUE), 5);
        Check.due("low 0, greatest int", m.addRow(Check.wild(m), BacktrackMatch.G_LOW, 0, Integer.MAX_VALUE), 6);
    }

    private static void refusalsLeaveThePatternFree() {
        BacktrackMatch m = Check.declared();
        int p = Check.wild(m);
        m.addRow(p, 5, 0, 0);
        m.addRow(p, BacktrackMatch.G_SAME, 0, 8);
        m.addRow(p, BacktrackMatch.G_HEAD, 0, 4);
        Check.due("row after refusals", Check.plainRow(m, p), 0);
    }

    private static void refusedWhenCompiled() {
        BacktrackMatch m = Check.declared();
        int p = Check.wild(m);
        m.compile();
        Check.due("row when compiled", Check.plainRow(m, p), -1);
        Check.due("rows", m.count(BacktrackMatch.COUNT_ROWS), 0);
        m.reset();
        Check.due("row after reset", Check.plainRow(m, Check.wild(m)), 0);
    }

    /** The bound k is compared as a plain int; below 1 it holds for no term. */
    private static void lowBounds() {
        int[] bounds = {Integer.MIN_VALUE, -1, 0, 1, 2, 3, 4, Integer.MAX_VALUE};
        for (int k : bounds) {
            BacktrackMatch m = Check.stocked();
            m.addRow(Check.var(m, 0), BacktrackMatch.G_LOW, 0, k);
            m.compile();
            for (int t = 0; t < 6; t++) {
                int due = m.termHeight(t) <= k ? 0 : BacktrackMatch.NO_MATCH;
                Check.due("match(" + t + ") with bound " + k, m.match(t), due);
            }
        }
    }
}
