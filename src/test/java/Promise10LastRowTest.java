/** Promise 10: lastRow is the answer of the last match that was not refused. */
public final class Promise10LastRowTest {
    public static void main(String[] args) {
        BacktrackMatch m = Check.stocked();
        Check.due("at first", m.lastRow(), BacktrackMatch.NO_MATCH);
        Check.plainRow(m, Check.cons(m, 0, 0, 0));
        Check.plainRow(m, Check.cons(m, 1, Check.wild(m), 0));
        m.match(0);
        Check.due("after a match not compiled", m.lastRow(), BacktrackMatch.NO_MATCH);
        m.compile();
        Check.due("after compile", m.lastRow(), BacktrackMatch.NO_MATCH);
        m.match(2);
        Check.due("after a match", m.lastRow(), 1);
        Check.due("asked again", m.lastRow(), 1);
        m.match(99);
        m.matchInOrder(-1);
        Check.due("after refused matches", m.lastRow(), 1);
        m.matchInOrder(0);
        Check.due("after matchInOrder", m.lastRow(), 0);
        m.match(3);
        Check.due("after no match", m.lastRow(), BacktrackMatch.NO_MATCH);
        m.match(2);
        m.matchInOrder(3);
        Check.due("after no match in order", m.lastRow(), BacktrackMatch.NO_MATCH);
        m.match(2);
        m.term(1, 2, 0);
        m.compile();
        Check.due("after term and a refused compile", m.lastRow(), 1);
        m.reset();
        Check.due("after reset", m.lastRow(), BacktrackMatch.NO_MATCH);
        Check.end();
    }
}
