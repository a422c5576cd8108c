/** Promise 11: binding tells the term of each variable, and -1 for unbound and for what is no variable. */
public final class Promise11BindingTest {
    public static void main(String[] args) {
        Check.sentence("answers the term id bound to variable x in the results", Promise11BindingTest::everyVariable);
        Check.sentence("-1 if x is unbound", Promise11BindingTest::unbound);
        Check.sentence("-1 if [..] x is outside 0..7", Promise11BindingTest::outside);
        Check.sentence("[the results of a refused match are those before it]", Promise11BindingTest::afterRefusedMatch);
        Check.sentence("Changes nothing.", Promise11BindingTest::changesNothing);
        Check.end();
    }

    private static void everyVariable() {
        for (int x = 0; x < BacktrackMatch.NUM_VARS; x++) {
            BacktrackMatch m = Check.stocked();
            Check.plainRow(m, Check.cons(m, 2, Check.wild(m), Check.var(m, x)));
            m.compile();
            m.match(4);
            for (int y = 0; y < BacktrackMatch.NUM_VARS; y++) {
                Check.due("binding(" + y + ") where " + x + " is bound", m.binding(y), y == x ? 3 : -1);
            }
        }
        BacktrackMatch full = Check.declared();
        Check.fillTerms(full);
        Check.plainRow(full, Check.var(full, 7));
        full.compile();
        for (int t = 0; t < 64; t++) {
            full.match(t);
            Check.due("binding(7) for term " + t, full.binding(7), t);
        }
    }

    private static void unbound() {
        BacktrackMatch m = new BacktrackMatch(8, 8, 1);
        dueNoneBound("of a new object", m);
        m = Check.stocked();
        Check.plainRow(m, Check.cons(m, 1, Check.var(m, 0), 0));
        m.compile();
        dueNoneBound("before any match", m);
        m.match(2);
        Check.due("binding(0)", m.binding(0), 0);
        m.match(0);
        dueNoneBound("after no match", m);
        m.match(2);
        m.reset();
        dueNoneBound("after reset", m);
    }

    private static void dueNoneBound(String when, BacktrackMatch m) {
        for (int x = 0; x < BacktrackMatch.NUM_VARS; x++) {
            Check.due("binding(" + x + ") " + when, m.binding(x), -1);
        }
    }

    private static BacktrackMatch allBound() {
        BacktrackMatch m = Check.stocked();
        int all = Check.wild(m);
        for (int x = 0; x < BacktrackMatch.NUM_VARS; x++) {
            all = Check.as(m, x, all);
        }
        Check.plainRow(m, all);
        m.compile();
        m.match(5);
        return m;
    }

    private static void outside() {
        BacktrackMatch m = allBound();
        BacktrackMatch fresh = new BacktrackMatch(8, 8, 1);
        for (int x : Check.outside(BacktrackMatch.NUM_VARS)) {
            Check.due("binding(" + x + ")", m.binding(x), -1);
            Check.due("binding(" + x + ") of a new object", fresh.binding(x), -1);
        }
        Check.due("binding(7)", m.binding(7), 5);
        Check.due("binding(0)", m.binding(0), 5);
    }

    private static void afterRefusedMatch() {
        BacktrackMatch m = allBound();
        m.match(1000);
        m.matchInOrder(-1);
        for (int x = 0; x < BacktrackMatch.NUM_VARS; x++) {
            Check.due("binding(" + x + ") after refused matches", m.binding(x), 5);
        }
    }

    private static void changesNothing() {
        BacktrackMatch m = allBound();
        for (int x = 0; x < BacktrackMatch.NUM_VARS; x++) {
            Check.due("binding(" + x + ")", m.binding(x), 5);
            Check.due("binding(" + x + ") again", m.binding(x), 5);
        }
        for (int x : Check.outside(BacktrackMatch.NUM_VARS)) {
            m.binding(x);
        }
        for (int x = 0; x < BacktrackMatch.NUM_VARS; x++) {
            Check.due("binding(" + x + ") after others", m.binding(x), 5);
        }
        Check.same("what is left", m, allBound());
        m = Check.matched();
        for (int x = 0; x < BacktrackMatch.NUM_VARS; x++) {
            m.binding(x);
        }
        for (int x : Check.outside(BacktrackMatch.NUM_VARS)) {
            m.binding(x);
        }
        Check.dueAsMatched(m);
    }
}
