/** Promise 3: term shares equal nodes, reads no argument past the arity and is allowed in every phase. */
public final class Promise03TermTest {
    public static void main(String[] args) {
        equalTermsShareAnId();
        childOrderMatters();
        unreadArgumentsAreIgnored();
        wrongArgumentsAreRefused();
        fullStoreStillFinds();
        resultsAndRowsStay();
        newTermsAreMatched();
        bothStoresFull();
        Check.end();
    }

    private static void equalTermsShareAnId() {
        BacktrackMatch m = Check.stocked();
        Check.due("terms", m.count(BacktrackMatch.COUNT_TERMS), 6);
        String before = Check.picture(m);
        Check.due("A again", m.term(0, 0, 0), 0);
        Check.due("D again", m.term(3, 0, 0), 1);
        Check.due("B(A) again", m.term(1, 0, 0), 2);
        Check.due("C(A, D) again", m.term(2, 0, 1), 3);
        Check.due("C(B(A), C(A, D)) again", m.term(2, 2, 3), 4);
        Check.due("C(A, A) again", m.term(2, 0, 0), 5);
        Check.due("the picture after finds", Check.picture(m), before);
    }

    private static void childOrderMatters() {
        BacktrackMatch m = Check.stocked();
        Check.due("C(D, A)", m.term(2, 1, 0), 6);
        Check.due("C(D, D)", m.term(2, 1, 1), 7);
        Check.due("B(D)", m.term(1, 1, 0), 8);
        Check.due("B(B(D)), its child the newest term", m.term(1, 8, 0), 9);
    }

    private static void unreadArgumentsAreIgnored() {
        BacktrackMatch m = Check.declared();
        Check.due("A with odd arguments", m.term(0, Integer.MIN_VALUE, 77), 0);
        Check.due("A with others", m.term(0, 5, -9), 0);
        Check.due("B(A) with an odd argument", m.term(1, 0, Integer.MAX_VALUE), 1);
        Check.due("B(A) with another", m.term(1, 0, -1), 1);
        Check.due("terms", m.count(BacktrackMatch.COUNT_TERMS), 2);
    }

    private static void wrongArgumentsAreRefused() {
        BacktrackMatch m = Check.stocked();
        String before = Check.picture(m);
        for (int wrong : Check.OUTSIDE_INTS) {
            Check.due("term(" + wrong + ", 0, 0)", m.term(wrong, 0, 0), -1);
            Check.due("term(1, " + wrong + ", 0)", m.term(1, wrong, 0), -1);
            Check.due("term(2, " + wrong + ", 0)", m.term(2, wrong, 0), -1);
            Check.due("term(2, 0, " + wrong + ")", m.term(2, 0, wrong), -1);
        }
        Check.due("a constructor not declared", m.term(4, 0, 0), -1);
        Check.due("its own id as child 0", m.term(1, 6, 0), -1);
        Check.due("its own id as child 1", m.term(2, 0, 6), -1);
        Check.due("the picture after refusals", Check.picture(m), before);
    }

    private static void fullStoreStillFinds() {
        BacktrackMatch m = new BacktrackMatch(8, 8, 1);
        m.defCons(0);
        m.defCons(1);
        m.term(0, 0, 0);
        for (int t = 1; t < 8; t++) {
            Check.due("term " + t, m.term(1, t - 1, 0), t);
        }
        Check.due("one too many", m.term(1, 7, 0), -1);
        Check.due("terms", m.count(BacktrackMatch.COUNT_TERMS), 8);
        for (int t = 1; t < 8; t++) {
            Check.due("find " + t + " in a full store", m.term(1, t - 1, 0), t);
        }
        Check.due("a wrong child in a full store", m.term(1, 8, 0), -1);
    }

    private static void resultsAndRowsStay() {
        BacktrackMatch m = Check.stocked();
        m.addRow(Check.var(m, 2), BacktrackMatch.G_LOW, 2, 0);
        Check.plainRow(m, Check.var(m, 5));
        m.compile();
        m.match(3);
        String before = Check.results(m);
        Check.due("a new term after compile", m.term(1, 2, 0), 6);
        Check.due("the results", Check.results(m), before);
        Check.due("constructors", m.count(BacktrackMatch.COUNT_CONS), 4);
        Check.due("patterns", m.count(BacktrackMatch.COUNT_PATTERNS), 4);
        Check.due("rows", m.count(BacktrackMatch.COUNT_ROWS), 2);
        Check.due("compiled", m.count(BacktrackMatch.COUNT_COMPILED), 1);
    }

    private static void newTermsAreMatched() {
        BacktrackMatch m = Check.stocked();
        int inner = Check.cons(m, 1, Check.var(m, 0), 0);
        Check.plainRow(m, Check.cons(m, 1, inner, 0));
        m.compile();
        Check.due("B(A)", m.match(2), BacktrackMatch.NO_MATCH);
        Check.due("match of a term that is not there yet", m.match(6), BacktrackMatch.REFUSED);
        Check.due("B(B(A)) built after compile", m.term(1, 2, 0), 6);
        Check.due("match of it", m.match(6), 0);
        Check.due("its binding", m.binding(0), 0);
        Check.due("rowPatternMatches of it", m.rowPatternMatches(0, 6), true);
    }

    private static void bothStoresFull() {
        BacktrackMatch m = Check.declared();
        for (int p = 0; p < 64; p++) {
            Check.wild(m);
        }
        Check.plainRow(m, 63);
        int t = m.term(0, 0, 0);
        for (int due = 1; due < 64; due++) {
            t = m.term(1, t, 0);
            Check.due("term " + due + " with 64 patterns", t, due);
            Check.due("its match with the last pattern", m.rowPatternMatches(0, due), true);
        }
        Check.due("a term too many", m.term(1, 63, 0), -1);
    }
}
