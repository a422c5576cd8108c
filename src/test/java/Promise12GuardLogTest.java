/** Promise 12: the guard log has an entry for each guard run, and -1 stands outside it. */
public final class Promise12GuardLogTest {
    public static void main(String[] args) {
        Check.sentence("guardLogLength() answers the number of entries in the guard log, in 0..8", Promise12GuardLogTest::everyLength);
        Check.sentence("guardLogAt(i) answers the row index of guard log entry i, entry 0 being the first guard run",
            Promise12GuardLogTest::entries);
        Check.sentence("it answers -1 if i is outside 0..guardLogLength()-1", Promise12GuardLogTest::outside);
        Check.sentence("[entries of a longer log before are gone]", Promise12GuardLogTest::shorterLog);
        Check.sentence("[no entries at first, after a refused match those before, none after reset]", Promise12GuardLogTest::emptyLog);
        Check.sentence("Neither changes anything.", Promise12GuardLogTest::changesNothing);
        Check.end();
    }

    /** The first rows have guards that fail, the others match A alone. */
    private static BacktrackMatch guarded(int rows) {
        BacktrackMatch m = Check.stocked();
        for (int r = 0; r < rows; r++) {
            m.addRow(Check.var(m, r), BacktrackMatch.G_LOW, r, 0);
        }
        for (int r = rows; r < 8; r++) {
            Check.failingRow(m, Check.leaf(m, 0));
        }
        m.compile();
        return m;
    }

    private static void everyLength() {
        for (int rows = 0; rows <= 8; rows++) {
            BacktrackMatch m = guarded(rows);
            for (int round = 0; round < 3; round++) {
                m.match(1);
                Check.due("guardLogLength() with " + rows + " guards run", m.guardLogLength(), rows);
                m.matchInOrder(0);
                Check.due("guardLogLength() with all guards run", m.guardLogLength(), 8);
            }
        }
    }

    private static void entries() {
        BacktrackMatch m = guarded(8);
        m.match(4);
        for (int i = 0; i < 8; i++) {
            Check.due("guardLogAt(" + i + ")", m.guardLogAt(i), i);
        }
        BacktrackMatch gaps = Check.stocked();
        for (int r = 0; r < 8; r++) {
            Check.failingRow(gaps, r % 3 == 1 ? Check.wild(gaps) : Check.leaf(gaps, 0));
        }
        gaps.compile();
        gaps.match(1);
        Check.due("guardLogAt(0)", gaps.guardLogAt(0), 1);
        Check.due("guardLogAt(1)", gaps.guardLogAt(1), 4);
        Check.due("guardLogAt(2)", gaps.guardLogAt(2), 7);
    }

    private static void outside() {
        for (int rows = 0; rows <= 8; rows++) {
            BacktrackMatch m = guarded(rows);
            m.match(0);
            m.match(1);
            for (int i : Check.outside(rows)) {
                Check.due("guardLogAt(" + i + ") with " + rows + " guards run", m.guardLogAt(i), -1);
            }
            for (int i = rows; i <= 9; i++) {
                Check.due("guardLogAt(" + i + ") with " + rows + " guards run", m.guardLogAt(i), -1);
            }
            Check.due("the last entry", m.guardLogAt(rows - 1), rows - 1);
        }
    }

    private static void shorterLog() {
        BacktrackMatch m = guarded(2);
        m.match(0);
        Check.due("guardLogAt(7)", m.guardLogAt(7), 7);
        m.match(1);
        for (int i = 2; i < 8; i++) {
            Check.due("guardLogAt(" + i + ") of a log of two", m.guardLogAt(i), -1);
        }
    }

    private static void emptyLog() {
        BacktrackMatch m = guarded(3);
        Check.due("guardLogLength() before any match", m.guardLogLength(), 0);
        Check.due("guardLogAt(0) before any match", m.guardLogAt(0), -1);
        m.match(1);
        m.match(-1);
        m.matchInOrder(6);
        Check.due("guardLogLength() after refused matches", m.guardLogLength(), 3);
        Check.due("guardLogAt(2) after refused matches", m.guardLogAt(2), 2);
        m.reset();
        Check.due("guardLogLength() after reset", m.guardLogLength(), 0);
        Check.due("guardLogAt(0) after reset", m.guardLogAt(0), -1);
        m.compile();
        m.match(1);
        Check.due("guardLogLength() without rows", m.guardLogLength(), 0);
    }

    private static void changesNothing() {
        BacktrackMatch m = Check.matched();
        for (int round = 0; round < 2; round++) {
            Check.due("guardLogLength()", m.guardLogLength(), 2);
            Check.due("guardLogAt(0)", m.guardLogAt(0), 0);
            Check.due("guardLogAt(1)", m.guardLogAt(1), 2);
        }
        for (int i : Check.outside(2)) {
            m.guardLogAt(i);
        }
        Check.dueAsMatched(m);
        Check.same("what is left", m, Check.matched());
    }
}
