/** Promise 10: lastRow is the answer of the last match that was not refused. */
public final class Promise10LastRowTest {
    public static void main(String[] args) {
        Check.sentence("the row selected by the last match or matchInOrder", Promise10LastRowTest::lastSelected);
        Check.sentence("that was not refused", Promise10LastRowTest::refusedCallsDoNotCount);
        Check.sentence("it is NO_MATCH if that call selected no row", Promise10LastRowTest::noRowSelected);
        Check.sentence("it is NO_MATCH [..] at first", Promise10LastRowTest::atFirst);
        Check.sentence("it is NO_MATCH [..] after reset", Promise10LastRowTest::afterReset);
        Check.sentence("Changes nothing.", Promise10LastRowTest::changesNothing);
        Check.end();
    }

    private static void lastSelected() {
        BacktrackMatch m = Check.matched();
        m.match(2);
        Check.due("after match(2)", m.lastRow(), 1);
        m.matchInOrder(0);
        Check.due("after matchInOrder(0)", m.lastRow(), 2);
        m.match(5);
        Check.due("after match(5)", m.lastRow(), 0);
        BacktrackMatch last = Check.stocked();
        for (int r = 0; r < 8; r++) {
            Check.plainRow(last, r < 7 ? Check.leaf(last, 3) : Check.wild(last));
        }
        last.compile();
        last.matchInOrder(0);
        Check.due("the last of eight rows", last.lastRow(), 7);
    }

    private static void refusedCallsDoNotCount() {
        BacktrackMatch m = Check.matched();
        m.match(2);
        for (int t : Check.outside(6)) {
            m.match(t);
            Check.due("after match(" + t + ")", m.lastRow(), 1);
            m.matchInOrder(t);
            Check.due("after matchInOrder(" + t + ")", m.lastRow(), 1);
        }
        m.term(1, 2, 0);
        m.compile();
        Check.wild(m);
        Check.due("after term and a refused compile and pat", m.lastRow(), 1);
    }

    private static void noRowSelected() {
        BacktrackMatch m = Check.matched();
        m.match(2);
        m.match(4);
        Check.due("after match(4)", m.lastRow(), BacktrackMatch.NO_MATCH);
        m.match(2);
        m.matchInOrder(4);
        Check.due("after matchInOrder(4)", m.lastRow(), BacktrackMatch.NO_MATCH);
    }

    private static void atFirst() {
        BacktrackMatch m = new BacktrackMatch(64, 64, 8);
        Check.due("of a new object", m.lastRow(), BacktrackMatch.NO_MATCH);
        m.defCons(0);
        m.term(0, 0, 0);
        Check.plainRow(m, Check.wild(m));
        Check.due("after addRow", m.lastRow(), BacktrackMatch.NO_MATCH);
        m.match(0);
        Check.due("after a match not compiled", m.lastRow(), BacktrackMatch.NO_MATCH);
        m.compile();
        Check.due("after compile", m.lastRow(), BacktrackMatch.NO_MATCH);
        m.match(0);
        Check.due("after the first match", m.lastRow(), 0);
    }

    private static void afterReset() {
        BacktrackMatch m = Check.matched();
        Check.due("before reset", m.lastRow(), 2);
        m.reset();
        Check.due("after reset", m.lastRow(), BacktrackMatch.NO_MATCH);
        m.compile();
        Check.due("after reset and compile", m.lastRow(), BacktrackMatch.NO_MATCH);
    }

    private static void changesNothing() {
        BacktrackMatch m = Check.matched();
        Check.due("asked", m.lastRow(), 2);
        Check.due("asked again", m.lastRow(), 2);
        Check.dueAsMatched(m);
        Check.same("what is left", m, Check.matched());
    }
}
