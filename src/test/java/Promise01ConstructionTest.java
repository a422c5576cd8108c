/** Promise 1: every capacity is clamped, stays as it is, and a new object is empty. */
public final class Promise01ConstructionTest {
    private static final int[][] TERM_AND_PATTERN_CLAMPS = {
        {Integer.MIN_VALUE, 8}, {-1, 8}, {0, 8}, {7, 8}, {8, 8}, {9, 9}, {40, 40},
        {63, 63}, {64, 64}, {65, 64}, {Integer.MAX_VALUE, 64},
    };

    private static final int[][] ROW_CLAMPS = {
        {Integer.MIN_VALUE, 1}, {-1, 1}, {0, 1}, {1, 1}, {2, 2}, {5, 5},
        {7, 7}, {8, 8}, {9, 8}, {Integer.MAX_VALUE, 8},
    };

    public static void main(String[] args) {
        for (int[] clamp : TERM_AND_PATTERN_CLAMPS) {
            Check.due("terms that fit for " + clamp[0], termsThatFit(new BacktrackMatch(clamp[0], 20, 3)), clamp[1]);
            Check.due("patterns that fit for " + clamp[0], patternsThatFit(new BacktrackMatch(20, clamp[0], 3)), clamp[1]);
        }
        for (int[] clamp : ROW_CLAMPS) {
            Check.due("rows that fit for " + clamp[0], rowsThatFit(new BacktrackMatch(20, 20, clamp[0])), clamp[1]);
        }
        emptyAtTheStart();
        capacitiesOutliveReset();
        Check.end();
    }

    private static int termsThatFit(BacktrackMatch m) {
        m.defCons(0);
        m.defCons(1);
        int newest = m.term(0, 0, 0);
        for (int tries = 0; tries < 100 && newest != -1; tries++) {
            newest = m.term(1, newest, 0);
        }
        return m.count(BacktrackMatch.COUNT_TERMS);
    }

    private static int patternsThatFit(BacktrackMatch m) {
        for (int tries = 0; tries < 100; tries++) {
            Check.wild(m);
        }
        return m.count(BacktrackMatch.COUNT_PATTERNS);
    }

    private static int rowsThatFit(BacktrackMatch m) {
        for (int tries = 0; tries < 15; tries++) {
            Check.plainRow(m, Check.wild(m));
        }
        return m.count(BacktrackMatch.COUNT_ROWS);
    }

    private static void emptyAtTheStart() {
        BacktrackMatch m = new BacktrackMatch(64, 64, 8);
        for (int what = BacktrackMatch.COUNT_CONS; what <= BacktrackMatch.COUNT_COMPILED; what++) {
            Check.due("count(" + what + ") of a new object", m.count(what), 0);
        }
        Check.due("lastRow() of a new object", m.lastRow(), BacktrackMatch.NO_MATCH);
        for (int x = 0; x < BacktrackMatch.NUM_VARS; x++) {
            Check.due("binding(" + x + ") of a new object", m.binding(x), -1);
        }
        Check.due("guardLogLength() of a new object", m.guardLogLength(), 0);
        Check.due("match(0) of a new object", m.match(0), BacktrackMatch.REFUSED);
        Check.due("term(0, 0, 0) of a new object", m.term(0, 0, 0), -1);
    }

    private static void capacitiesOutliveReset() {
        BacktrackMatch m = new BacktrackMatch(10, 12, 3);
        Check.due("terms", termsThatFit(m), 10);
        m.reset();
        Check.due("patterns after reset", patternsThatFit(m), 12);
        m.reset();
        Check.due("rows after reset", rowsThatFit(m), 3);
        Check.due("a term too many after reset", m.term(1, 9, 0), -1);
    }
}
