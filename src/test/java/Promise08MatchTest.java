/** Promise 8: match and matchInOrder refuse and answer alike, and keep to the consequences that the document draws. */
public final class Promise08MatchTest {
    private static boolean inOrder;

    public static void main(String[] args) {
        for (boolean second : new boolean[] {false, true}) {
            inOrder = second;
            Check.sentence("1. not compiled: answer REFUSED", Promise08MatchTest::refusedWhenNotCompiled);
            Check.sentence("2. t outside 0..termCount-1: answer REFUSED", Promise08MatchTest::refusedTerms);
            Check.sentence("match(t) tests in order", Promise08MatchTest::bothReasons);
            Check.sentence("A refused call changes nothing, so the results of the previous unrefused match stay readable.",
                Promise08MatchTest::resultsStayReadable);
            Check.sentence("Otherwise it runs THE MATCH PROCEDURE on t and answers the selected row or NO_MATCH.",
                Promise08MatchTest::answersTheRow);
            Check.sentence("The results are replaced entirely as the procedure says.", Promise08MatchTest::resultsAreReplaced);
            Check.sentence("Constructors, terms, pattern nodes, rows, counts and the compiled flag do not change.",
                Promise08MatchTest::nothingElseChanges);
            Check.sentence("The guard log lists distinct rows in strictly increasing order.", Promise08MatchTest::logIncreases);
            Check.sentence("Each logged row r has rowPatternMatches(r, t) true and a guard kind other than G_NONE.",
                Promise08MatchTest::loggedRowsMatchAndAreGuarded);
            Check.sentence("The guard of every logged row except the last is false on that row's own bindings.",
                Promise08MatchTest::onlyTheLastLoggedGuardCanHold);
            Check.sentence("The answer is NO_MATCH iff, for every row r, either rowPatternMatches(r, t) is false or r has a guard"
                + " that is false on r's own bindings.", Promise08MatchTest::noMatch);
            Check.sentence("Otherwise the answer is the least row r whose pattern matches t and whose guard is G_NONE or true on r's bindings",
                Promise08MatchTest::leastRow);
            Check.sentence("binding(x) is the term r's bindings give to x, or -1 if x is unbound there", Promise08MatchTest::bindingsOfTheRow);
            Check.sentence("Each guard is run at most once.", Promise08MatchTest::guardsRunOnce);
            Check.sentence("The bindings of a row come from the leftmost matching alternative of each or-pattern; if the guard then"
                + " fails, the row fails.", Promise08MatchTest::leftmostAlternatives);
        }
        Check.sentence("matchInOrder(t) is exactly as match(t): same tests, same answer, same effect on the results.",
            Promise08MatchTest::bothCallsAgree);
        Check.sentence("Right after either call, lastRow(), binding(x) for every int x, guardLogLength() and guardLogAt(i) for every int i give the same"
            + " answers as right after the other on the same state.",
            Promise08MatchTest::readsAgreeForEveryInt);
        Check.end();
    }

    private static int ask(BacktrackMatch m, int t) {
        return inOrder ? m.matchInOrder(t) : m.match(t);
    }

    private static String log(BacktrackMatch m) {
        StringBuilder all = new StringBuilder("log");
        for (int i = 0; i < m.guardLogLength(); i++) {
            all.append(' ').append(m.guardLogAt(i));
        }
        return all.toString();
    }

    private static BacktrackMatch open() {
        BacktrackMatch m = Check.stocked();
        m.addRow(Check.var(m, 6), BacktrackMatch.G_LOW, 6, 1);
        Check.wild(m);
        return m;
    }

    private static void refusedWhenNotCompiled() {
        BacktrackMatch m = open();
        for (int t = 0; t < 6; t++) {
            Check.due("match(" + t + ") when not compiled", ask(m, t), BacktrackMatch.REFUSED);
        }
        Check.same("what is left after the refusals", m, open());
        BacktrackMatch again = open();
        again.compile();
        Check.due("match(0) when compiled", ask(again, 0), 0);
        again.reset();
        Check.due("match(0) after reset", ask(again, 0), BacktrackMatch.REFUSED);
        Check.same("what is left after reset", again, Check.stocked());
    }

    private static void refusedTerms() {
        BacktrackMatch m = Check.matched();
        for (int t : Check.outside(6)) {
            Check.due("match(" + t + ")", ask(m, t), BacktrackMatch.REFUSED);
        }
        Check.same("what is left after the refusals", m, Check.matched());
        BacktrackMatch empty = Check.declared();
        Check.plainRow(empty, Check.wild(empty));
        empty.compile();
        for (int t : Check.outside(0)) {
            Check.due("match(" + t + ") without terms", ask(empty, t), BacktrackMatch.REFUSED);
        }
        BacktrackMatch full = Check.declared();
        Check.fillTerms(full);
        Check.plainRow(full, Check.wild(full));
        full.compile();
        Check.due("match(63) of 64 terms", ask(full, 63), 0);
        for (int t : Check.outside(64)) {
            Check.due("match(" + t + ") of 64 terms", ask(full, t), BacktrackMatch.REFUSED);
        }
    }

    private static void bothReasons() {
        BacktrackMatch m = open();
        for (int t : Check.outside(6)) {
            Check.due("match(" + t + ") when not compiled", ask(m, t), BacktrackMatch.REFUSED);
        }
        Check.same("what is left after the refusals", m, open());
        BacktrackMatch fresh = new BacktrackMatch(8, 8, 1);
        for (int t : Check.outside(0)) {
            Check.due("match(" + t + ") of a new object", ask(fresh, t), BacktrackMatch.REFUSED);
        }
        Check.same("what is left of a new object", fresh, new BacktrackMatch(8, 8, 1));
    }

    private static void resultsStayReadable() {
        BacktrackMatch m = Check.matched();
        Check.due("C(A, A)", ask(m, 5), 0);
        String before = Check.results(m);
        Check.due("binding(1)", m.binding(1), 0);
        for (int t : Check.outside(6)) {
            ask(m, t);
            Check.due("the results after match(" + t + ")", Check.results(m), before);
        }
    }

    private static void answersTheRow() {
        BacktrackMatch m = Check.matched();
        int[] rows = {2, 2, 1, 2, -1, 0};
        for (int t = 0; t < rows.length; t++) {
            Check.due("match(" + t + ")", ask(m, t), rows[t]);
            Check.due("lastRow()", m.lastRow(), rows[t]);
        }
    }

    private static void resultsAreReplaced() {
        BacktrackMatch m = Check.matched();
        Check.due("C(A, D)", ask(m, 3), 2);
        Check.due("its log", log(m), "log 0 2");
        Check.due("B(A)", ask(m, 2), 1);
        Check.due("binding(3), bound before", m.binding(3), -1);
        Check.due("binding(2)", m.binding(2), 0);
        Check.due("its log", log(m), "log");
        Check.due("C(A, A)", ask(m, 5), 0);
        Check.due("binding(2), bound before", m.binding(2), -1);
        Check.due("its log", log(m), "log 0");
        Check.due("C(B(A), C(A, D))", ask(m, 4), BacktrackMatch.NO_MATCH);
        Check.due("binding(0), bound before", m.binding(0), -1);
        Check.due("lastRow()", m.lastRow(), BacktrackMatch.NO_MATCH);
        Check.due("its log", log(m), "log 0 2");
        for (int before = 0; before < 6; before++) {
            for (int t = 0; t < 6; t++) {
                dueAsOnANewObject(before, t);
            }
        }
    }

    private static void dueAsOnANewObject(int before, int t) {
        for (boolean bound : new boolean[] {false, true}) {
            BacktrackMatch second = bound ? allBound() : mixed();
            BacktrackMatch first = bound ? allBound() : mixed();
            ask(second, before);
            Check.due("match(" + t + ") after " + before, ask(second, t), ask(first, t));
            Check.due("the results of " + t + " after " + before, Check.results(second), Check.results(first));
        }
    }

    /** Row 0 binds all variables to a C(_, _) of height 2. */
    private static BacktrackMatch allBound() {
        BacktrackMatch m = Check.stocked();
        int all = Check.cons(m, 2, Check.wild(m), Check.wild(m));
        for (int x = 0; x < BacktrackMatch.NUM_VARS; x++) {
            all = Check.as(m, x, all);
        }
        m.addRow(all, BacktrackMatch.G_LOW, 0, 2);
        m.compile();
        return m;
    }

    private static void nothingElseChanges() {
        BacktrackMatch m = mixed();
        String before = Check.counts(m) + Check.termsAndRows(m);
        for (int t : new int[] {0, 1, 2, 3, 4, 5, -1, 6}) {
            ask(m, t);
            Check.due("the counts, terms and rows after match(" + t + ")", Check.counts(m) + Check.termsAndRows(m), before);
        }
        BacktrackMatch once = mixed();
        ask(once, 3);
        ask(m, 3);
        Check.same("what is left after match(3)", m, once);
    }

    /** Rows 0, 2, 3, 5 and 7 have guards; 3 holds for A alone, 7 for every term of height 2 at most; 4 matches B(A) alone. */
    private static BacktrackMatch mixed() {
        BacktrackMatch m = Check.stocked();
        Check.failingRow(m, Check.var(m, 0));
        Check.plainRow(m, Check.cons(m, 2, Check.leaf(m, 3), Check.wild(m)));
        Check.failingRow(m, Check.cons(m, 2, Check.var(m, 0), Check.var(m, 1)));
        m.addRow(Check.var(m, 3), BacktrackMatch.G_HEAD, 3, 0);
        Check.plainRow(m, Check.cons(m, 1, Check.var(m, 4), 0));
        Check.failingRow(m, Check.or(m, Check.var(m, 5), Check.var(m, 0)));
        Check.plainRow(m, Check.cons(m, 2, Check.leaf(m, 0), Check.as(m, 6, Check.leaf(m, 0))));
        m.addRow(Check.var(m, 7), BacktrackMatch.G_LOW, 7, 2);
        m.compile();
        return m;
    }

    private static void logIncreases() {
        BacktrackMatch m = mixed();
        String[] logs = {"log 0 3", "log 0 3 5 7", "log 0 3", "log 0 2 3 5 7", "log 0 2 3 5 7", "log 0 2 3 5"};
        for (int t = 0; t < logs.length; t++) {
            ask(m, t);
            Check.due("the log of " + t, log(m), logs[t]);
            for (int i = 1; i < m.guardLogLength(); i++) {
                Check.due("entry " + i + " is greater than the one before", m.guardLogAt(i) > m.guardLogAt(i - 1), true);
            }
        }
    }

    private static void loggedRowsMatchAndAreGuarded() {
        BacktrackMatch m = mixed();
        for (int t = 0; t < 6; t++) {
            ask(m, t);
            Check.due("guards run for " + t, m.guardLogLength() > 0, true);
            for (int i = 0; i < m.guardLogLength(); i++) {
                int r = m.guardLogAt(i);
                Check.due("rowPatternMatches(" + r + ", " + t + ")", m.rowPatternMatches(r, t), true);
                Check.due("row " + r + " has a guard", r == 0 || r == 2 || r == 3 || r == 5 || r == 7, true);
            }
        }
    }

    private static void onlyTheLastLoggedGuardCanHold() {
        BacktrackMatch m = mixed();
        for (int t = 0; t < 6; t++) {
            int row = ask(m, t);
            for (int i = 0; i < m.guardLogLength() - 1; i++) {
                int r = m.guardLogAt(i);
                boolean holds = r == 3 && t == 0 || r == 7 && m.termHeight(t) <= 2;
                Check.due("the guard of row " + r + " for " + t, holds, false);
            }
            int last = m.guardLogAt(m.guardLogLength() - 1);
            boolean holds = last == 3 && t == 0 || last == 7 && m.termHeight(t) <= 2;
            Check.due("the last logged row is selected if its guard holds, for " + t, row == last, holds);
        }
    }

    private static void noMatch() {
        BacktrackMatch m = mixed();
        Check.due("C(B(A), C(A, D)), which fits rows 0, 2, 3, 5 and 7 without their guards", ask(m, 4), BacktrackMatch.NO_MATCH);
        BacktrackMatch unmatched = Check.stocked();
        for (int r = 0; r < 8; r++) {
            Check.plainRow(unmatched, Check.leaf(unmatched, 0));
        }
        unmatched.compile();
        Check.due("D, which fits no row", ask(unmatched, 1), BacktrackMatch.NO_MATCH);
        Check.due("the results", Check.results(unmatched), Check.noResults());
        BacktrackMatch last = Check.stocked();
        for (int r = 0; r < 7; r++) {
            Check.failingRow(last, Check.wild(last));
        }
        last.addRow(Check.var(last, 0), BacktrackMatch.G_HEAD, 0, 3);
        last.compile();
        Check.due("D, for which the last of eight guards holds", ask(last, 1), 7);
        Check.due("A, for which it does not", ask(last, 0), BacktrackMatch.NO_MATCH);
    }

    private static void leastRow() {
        BacktrackMatch m = mixed();
        int[] rows = {3, 7, 4, 7, -1, 6};
        for (int t = 0; t < rows.length; t++) {
            Check.due("match(" + t + ")", ask(m, t), rows[t]);
        }
        for (int least = 0; least < 8; least++) {
            BacktrackMatch later = Check.stocked();
            for (int r = 0; r < 8; r++) {
                Check.plainRow(later, r < least ? Check.leaf(later, 0) : Check.wild(later));
            }
            later.compile();
            Check.due("D with rows from " + least + " on", ask(later, 1), least);
        }
    }

    private static void bindingsOfTheRow() {
        BacktrackMatch m = mixed();
        int[][] due = {{3, 0}, {7, 1}, {4, 0}, {7, 3}, {-1, -1}, {6, 0}};
        for (int t = 0; t < due.length; t++) {
            ask(m, t);
            for (int x = 0; x < BacktrackMatch.NUM_VARS; x++) {
                Check.due("binding(" + x + ") for " + t, m.binding(x), x == due[t][0] ? due[t][1] : -1);
            }
        }
    }

    private static void guardsRunOnce() {
        BacktrackMatch m = Check.stocked();
        int three = Check.or(m, Check.var(m, 0), Check.or(m, Check.var(m, 0), Check.var(m, 1)));
        m.addRow(three, BacktrackMatch.G_HEAD, 1, 0);
        m.compile();
        Check.due("A, which fits three alternatives", ask(m, 0), BacktrackMatch.NO_MATCH);
        Check.due("the log", log(m), "log 0");
        Check.due("A again", ask(m, 0), BacktrackMatch.NO_MATCH);
        Check.due("the log again", log(m), "log 0");
    }

    private static void leftmostAlternatives() {
        BacktrackMatch m = Check.stocked();
        int first = Check.or(m, Check.as(m, 0, Check.leaf(m, 3)), Check.or(m, Check.as(m, 1, Check.leaf(m, 0)), Check.var(m, 2)));
        int second = Check.or(m, Check.or(m, Check.as(m, 3, Check.leaf(m, 0)), Check.var(m, 4)), Check.var(m, 5));
        m.addRow(Check.cons(m, 2, first, second), BacktrackMatch.G_HEAD, 4, 3);
        m.compile();
        Check.due("C(A, D)", ask(m, 3), 0);
        int[] due = {-1, 0, -1, -1, 1, -1, -1, -1};
        for (int x = 0; x < due.length; x++) {
            Check.due("binding(" + x + ")", m.binding(x), due[x]);
        }
        Check.due("C(A, A), whose leftmost alternative does not bind 4", ask(m, 5), BacktrackMatch.NO_MATCH);
        Check.due("C(B(A), C(A, D)), whose 4 has another constructor", ask(m, 4), BacktrackMatch.NO_MATCH);
        Check.due("the log", log(m), "log 0");
    }

    /** The calls before leave different results behind, which neither of the two may show. */
    private static void bothCallsAgree() {
        for (int before = 0; before < 6; before++) {
            for (int t = -1; t <= 6; t++) {
                BacktrackMatch plain = mixed();
                BacktrackMatch ordered = mixed();
                plain.match(before);
                ordered.match(before);
                Check.due("matchInOrder(" + t + ")", ordered.matchInOrder(t), plain.match(t));
                Check.same("all after matchInOrder(" + t + ")", ordered, plain);
            }
        }
        BacktrackMatch fresh = new BacktrackMatch(8, 8, 1);
        Check.due("matchInOrder(0) of a new object", fresh.matchInOrder(0), BacktrackMatch.REFUSED);
    }

    private static void readsAgreeForEveryInt() {
        BacktrackMatch plain = mixed();
        BacktrackMatch ordered = mixed();
        for (int t = 0; t < 6; t++) {
            plain.match(t);
            ordered.match(5 - t);
            ordered.matchInOrder(t);
            Check.due("lastRow()", ordered.lastRow(), plain.lastRow());
            Check.due("guardLogLength()", ordered.guardLogLength(), plain.guardLogLength());
            for (int n = -300; n <= 300; n++) {
                dueReadsAgree(plain, ordered, n);
            }
            for (int n : Check.outside(8)) {
                dueReadsAgree(plain, ordered, n);
                boolean unread = plain.binding(n) == -1 && plain.guardLogAt(n) == -1;
                Check.due("nothing is read at " + n, unread, true);
            }
        }
    }

    private static void dueReadsAgree(BacktrackMatch plain, BacktrackMatch ordered, int n) {
        Check.due("binding(" + n + ")", ordered.binding(n), plain.binding(n));
        Check.due("guardLogAt(" + n + ")", ordered.guardLogAt(n), plain.guardLogAt(n));
    }
}
