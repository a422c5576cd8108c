/** The section 'State and meanings': matching, writes, bindings, guards and the match procedure, by both calls that use it. */
public final class MeaningsTest {
    private static boolean inOrder;

    public static void main(String[] args) {
        for (boolean second : new boolean[] {false, true}) {
            inOrder = second;
            matching();
            bindings();
            guards();
            procedure();
        }
        Check.end();
    }

    private static void matching() {
        Check.sentence("P_WILD matches every t; writes nothing.", MeaningsTest::wild);
        Check.sentence("P_AS x q matches t iff q matches t", MeaningsTest::asMatchesWhatItsChildMatches);
        Check.sentence("[P_AS] writes q's writes, then x := t.", MeaningsTest::asWritesLast);
        Check.sentence("[P_CONS] matches t iff t's constructor is c", MeaningsTest::consLooksAtTheConstructor);
        Check.sentence("and, for each i below arity(c), qi matches child i of t", MeaningsTest::consLooksAtEachChild);
        Check.sentence("writes q0's writes, then q1's writes", MeaningsTest::childOneWritesLast);
        Check.sentence("(only those below the arity)", MeaningsTest::nothingPastTheArity);
        Check.sentence("P_OR q r matches t iff q matches t or r matches t", MeaningsTest::orMatchesEither);
        Check.sentence("writes q's writes if q matches t", MeaningsTest::leftAlternativeWrites);
        Check.sentence("else r's writes", MeaningsTest::rightAlternativeWrites);
        Check.sentence("In the MATCHING rules, P_AS x q has x = a, q = b; P_CONS c q0 q1 has c = a, q0 = b, q1 = c; P_OR q r has q = a, r = b.",
            MeaningsTest::argumentsOfPat);
        Check.sentence("[nested patterns]", MeaningsTest::nested);
        Check.sentence("[one tree of as many patterns as there can be]", MeaningsTest::largestTrees);
    }

    private static void bindings() {
        Check.sentence("for each variable, the term of the last write to it in the list", MeaningsTest::lastWriteCounts);
        Check.sentence("variables never written are unbound", MeaningsTest::unwrittenIsUnbound);
    }

    private static void guards() {
        Check.sentence("GUARDS, evaluated on one row's own bindings", MeaningsTest::guardsSeeTheirOwnRowOnly);
        Check.sentence("Here x and y are the row's g1 and g2 for G_SAME and G_DIFF; x is g1 and c or k is g2 for G_HEAD and G_LOW.",
            MeaningsTest::argumentsOfGuards);
        Check.sentence("G_NONE: no guard; the row is selected whenever its pattern matches.", MeaningsTest::noGuard);
        Check.sentence("G_SAME x y: true iff x and y are both bound", MeaningsTest::sameOfUnbound);
        Check.sentence("and to the same term id", MeaningsTest::sameOfBound);
        Check.sentence("G_DIFF x y: true iff x and y are both bound", MeaningsTest::diffOfUnbound);
        Check.sentence("and to different term ids", MeaningsTest::diffOfBound);
        Check.sentence("G_HEAD x c: true iff x is bound", MeaningsTest::headOfUnbound);
        Check.sentence("to a term whose constructor is c", MeaningsTest::headOfBound);
        Check.sentence("G_LOW x k: true iff x is bound", MeaningsTest::lowOfUnbound);
        Check.sentence("to a term whose height is <= k", MeaningsTest::lowOfBound);
    }

    private static void procedure() {
        Check.sentence("1. lastRow := NO_MATCH, all 8 bindings := -1, guard log := empty.", MeaningsTest::resultsAreCleared);
        Check.sentence("2. For r = 0, 1, .., rowCount-1 in this order", MeaningsTest::rowsInOrder);
        Check.sentence("a. if row r's pattern does not match t, go on with r+1", MeaningsTest::unmatchedRowsArePassed);
        Check.sentence("c. if the guard kind is G_NONE: select r", MeaningsTest::noGuardIsNotLogged);
        Check.sentence("d. otherwise append r to the guard log and evaluate the guard on B; if true select r, else go on with r+1",
            MeaningsTest::guardsAreLogged);
        Check.sentence("(no other alternative of an or-pattern of row r is tried: row r simply fails)",
            MeaningsTest::failedGuardTriesNoOtherAlternative);
        Check.sentence("Selecting r means: lastRow := r, the bindings := B, stop.", MeaningsTest::selectingStops);
        Check.sentence("3. The answer is lastRow (NO_MATCH if no row was selected; then all bindings stay -1)", MeaningsTest::failedRowsLeaveNoBindings);
        Check.sentence("So each row appears at most once in the guard log, in increasing order, and each guard is run at most once per match.", MeaningsTest::logIncreases);
    }

    private static int ask(BacktrackMatch m, int t) {
        return inOrder ? m.matchInOrder(t) : m.match(t);
    }

    /** The bindings of all eight variables, one after the other. */
    private static String bound(BacktrackMatch m) {
        StringBuilder all = new StringBuilder();
        for (int x = 0; x < BacktrackMatch.NUM_VARS; x++) {
            all.append(x == 0 ? "" : " ").append(m.binding(x));
        }
        return all.toString();
    }

    private static String log(BacktrackMatch m) {
        StringBuilder all = new StringBuilder("log");
        for (int i = 0; i < m.guardLogLength(); i++) {
            all.append(' ').append(m.guardLogAt(i));
        }
        return all.toString();
    }

    private static void dueMatches(BacktrackMatch m, String due) {
        m.compile();
        for (int t = 0; t < due.length(); t++) {
            Check.due("match(" + t + ")", ask(m, t), due.charAt(t) == '1' ? 0 : BacktrackMatch.NO_MATCH);
            Check.due("rowPatternMatches(0, " + t + ")", m.rowPatternMatches(0, t), due.charAt(t) == '1');
        }
    }

    private static void wild() {
        BacktrackMatch m = Check.stocked();
        Check.plainRow(m, Check.wild(m));
        Check.fillTerms(m);
        dueMatches(m, "1".repeat(64));
        Check.due("bindings", bound(m), "-1 -1 -1 -1 -1 -1 -1 -1");
    }

    private static void asMatchesWhatItsChildMatches() {
        BacktrackMatch m = Check.stocked();
        Check.plainRow(m, Check.as(m, 3, Check.cons(m, 2, Check.wild(m), Check.wild(m))));
        dueMatches(m, "000111");
    }

    private static void asWritesLast() {
        BacktrackMatch m = Check.stocked();
        int inner = Check.cons(m, 2, Check.var(m, 0), Check.var(m, 1));
        Check.plainRow(m, Check.as(m, 0, Check.as(m, 2, inner)));
        m.compile();
        Check.due("C(A, D)", ask(m, 3), 0);
        Check.due("bindings", bound(m), "3 1 3 -1 -1 -1 -1 -1");
    }

    private static void consLooksAtTheConstructor() {
        for (int c = 0; c < 4; c++) {
            BacktrackMatch m = Check.stocked();
            Check.plainRow(m, Check.cons(m, c, Check.wild(m), Check.wild(m)));
            dueMatches(m, new String[] {"100000", "001000", "000111", "010000"}[c]);
        }
    }

    private static void consLooksAtEachChild() {
        BacktrackMatch first = Check.stocked();
        Check.plainRow(first, Check.cons(first, 2, Check.cons(first, 1, Check.wild(first), 0), Check.wild(first)));
        dueMatches(first, "000010");
        BacktrackMatch second = Check.stocked();
        Check.plainRow(second, Check.cons(second, 2, Check.wild(second), Check.leaf(second, 0)));
        dueMatches(second, "000001");
        BacktrackMatch both = Check.stocked();
        Check.plainRow(both, Check.cons(both, 2, Check.leaf(both, 0), Check.leaf(both, 3)));
        dueMatches(both, "000100");
        BacktrackMatch only = Check.stocked();
        Check.plainRow(only, Check.cons(only, 1, Check.leaf(only, 3), 0));
        only.term(1, 1, 0);
        dueMatches(only, "0000001");
    }

    /** Whichever of the two patterns was built first. */
    private static void childOneWritesLast() {
        for (boolean secondBuiltFirst : new boolean[] {false, true}) {
            BacktrackMatch m = Check.stocked();
            int one = Check.var(m, 0);
            int two = Check.var(m, 0);
            Check.plainRow(m, secondBuiltFirst ? Check.cons(m, 2, two, one) : Check.cons(m, 2, one, two));
            m.compile();
            Check.due("C(A, D)", ask(m, 3), 0);
            Check.due("binding(0), written twice", m.binding(0), 1);
            Check.due("C(B(A), C(A, D))", ask(m, 4), 0);
            Check.due("binding(0), written twice", m.binding(0), 3);
        }
    }

    /** The arguments past the arity name patterns that would fail or bind, were they looked at. */
    private static void nothingPastTheArity() {
        BacktrackMatch m = Check.stocked();
        int binding = Check.var(m, 0);
        int failing = Check.leaf(m, 3);
        Check.plainRow(m, Check.cons(m, 0, failing, binding));
        Check.plainRow(m, Check.cons(m, 3, binding, failing));
        Check.plainRow(m, Check.cons(m, 1, Check.var(m, 1), failing));
        m.compile();
        Check.due("A", ask(m, 0), 0);
        Check.due("bindings", bound(m), "-1 -1 -1 -1 -1 -1 -1 -1");
        Check.due("D", ask(m, 1), 1);
        Check.due("bindings", bound(m), "-1 -1 -1 -1 -1 -1 -1 -1");
        Check.due("B(A)", ask(m, 2), 2);
        Check.due("bindings", bound(m), "-1 0 -1 -1 -1 -1 -1 -1");
        BacktrackMatch open = Check.stocked();
        binding = Check.var(open, 0);
        Check.plainRow(open, Check.cons(open, 1, Check.wild(open), binding));
        open.compile();
        Check.due("B(A)", ask(open, 2), 0);
        Check.due("binding(0)", open.binding(0), -1);
    }

    private static void orMatchesEither() {
        BacktrackMatch m = Check.stocked();
        Check.plainRow(m, Check.or(m, Check.leaf(m, 3), Check.cons(m, 1, Check.wild(m), 0)));
        dueMatches(m, "011000");
        BacktrackMatch both = Check.stocked();
        Check.plainRow(both, Check.or(both, Check.wild(both), Check.leaf(both, 0)));
        dueMatches(both, "111111");
        BacktrackMatch neither = Check.stocked();
        Check.plainRow(neither, Check.cons(neither, 1, Check.or(neither, Check.leaf(neither, 3), Check.cons(neither, 1, Check.wild(neither), 0)), 0));
        neither.term(1, 1, 0);
        neither.term(1, 2, 0);
        dueMatches(neither, "00000011");
    }

    private static void leftAlternativeWrites() {
        BacktrackMatch m = Check.stocked();
        Check.plainRow(m, Check.or(m, Check.var(m, 0), Check.var(m, 1)));
        m.compile();
        Check.due("B(A)", ask(m, 2), 0);
        Check.due("bindings", bound(m), "2 -1 -1 -1 -1 -1 -1 -1");
    }

    private static void rightAlternativeWrites() {
        BacktrackMatch m = Check.stocked();
        int left = Check.cons(m, 2, Check.var(m, 0), Check.leaf(m, 3));
        int right = Check.cons(m, 2, Check.var(m, 1), Check.var(m, 2));
        Check.plainRow(m, Check.or(m, left, right));
        m.compile();
        Check.due("C(A, D)", ask(m, 3), 0);
        Check.due("bindings", bound(m), "0 -1 -1 -1 -1 -1 -1 -1");
        Check.due("C(B(A), C(A, D))", ask(m, 4), 0);
        Check.due("bindings", bound(m), "-1 2 3 -1 -1 -1 -1 -1");
        Check.due("D", ask(m, 1), BacktrackMatch.NO_MATCH);
    }

    /** Every id is another one than its place would be, so that no two arguments can change places unseen. */
    private static void argumentsOfPat() {
        BacktrackMatch as = Check.stocked();
        Check.leaf(as, 3);
        Check.wild(as);
        Check.plainRow(as, as.pat(BacktrackMatch.P_AS, 1, 0, 1));
        dueMatches(as, "010000");
        ask(as, 1);
        Check.due("bindings", bound(as), "-1 1 -1 -1 -1 -1 -1 -1");
        BacktrackMatch cons = Check.stocked();
        Check.leaf(cons, 3);
        Check.leaf(cons, 0);
        Check.wild(cons);
        Check.plainRow(cons, cons.pat(BacktrackMatch.P_CONS, 2, 1, 0));
        dueMatches(cons, "000100");
        BacktrackMatch or = Check.stocked();
        Check.as(or, 2, Check.leaf(or, 0));
        Check.var(or, 3);
        Check.plainRow(or, or.pat(BacktrackMatch.P_OR, 3, 1, 0));
        dueMatches(or, "111111");
        ask(or, 0);
        Check.due("bindings", bound(or), "-1 -1 -1 0 -1 -1 -1 -1");
    }

    private static void nested() {
        BacktrackMatch m = Check.stocked();
        int left = Check.cons(m, 1, Check.var(m, 0), 0);
        int right = Check.cons(m, 2, Check.var(m, 1), Check.as(m, 2, Check.leaf(m, 3)));
        Check.plainRow(m, Check.as(m, 3, Check.cons(m, 2, left, right)));
        m.term(2, 2, 5);
        m.term(2, 5, 3);
        m.term(2, 2, 6);
        dueMatches(m, "000010000");
        ask(m, 4);
        Check.due("bindings", bound(m), "0 0 1 4 -1 -1 -1 -1");
    }

    private static void largestTrees() {
        BacktrackMatch chain = Check.stocked();
        int p = Check.wild(chain);
        for (int n = 1; n < 64; n++) {
            p = Check.as(chain, n % 8, p);
        }
        Check.plainRow(chain, p);
        chain.compile();
        Check.due("the root of the chain", p, 63);
        Check.due("the chain", ask(chain, 4), 0);
        Check.due("bindings", bound(chain), "4 4 4 4 4 4 4 4");
        BacktrackMatch wide = Check.stocked();
        int t = 0;
        p = Check.var(wide, 0);
        for (int n = 0; n < 20; n++) {
            p = Check.cons(wide, 2, Check.var(wide, 1), p);
            t = wide.term(2, n % 2, t);
        }
        Check.plainRow(wide, p);
        wide.compile();
        Check.due("the root of the wide one", p, 61);
        Check.due("the wide one", ask(wide, t), 0);
        Check.due("bindings", bound(wide), "0 0 -1 -1 -1 -1 -1 -1");
        BacktrackMatch leaning = Check.stocked();
        t = 1;
        p = Check.var(leaning, 7);
        for (int n = 0; n < 31; n++) {
            p = Check.cons(leaning, 2, p, Check.wild(leaning));
            t = leaning.term(2, t, 0);
        }
        Check.plainRow(leaning, p);
        leaning.compile();
        Check.due("the root of the leaning one", p, 63);
        Check.due("the leaning one", ask(leaning, t), 0);
        Check.due("bindings", bound(leaning), "-1 -1 -1 -1 -1 -1 -1 1");
    }

    private static void lastWriteCounts() {
        BacktrackMatch m = Check.stocked();
        int left = Check.as(m, 5, Check.cons(m, 1, Check.var(m, 5), 0));
        int right = Check.cons(m, 2, Check.var(m, 5), Check.or(m, Check.as(m, 5, Check.leaf(m, 3)), Check.wild(m)));
        Check.plainRow(m, Check.cons(m, 2, left, right));
        m.term(2, 2, 5);
        m.compile();
        Check.due("C(B(A), C(A, D))", ask(m, 4), 0);
        Check.due("bindings", bound(m), "-1 -1 -1 -1 -1 1 -1 -1");
        Check.due("C(B(A), C(A, A))", ask(m, 6), 0);
        Check.due("bindings", bound(m), "-1 -1 -1 -1 -1 0 -1 -1");
    }

    private static void unwrittenIsUnbound() {
        BacktrackMatch m = Check.stocked();
        int failing = Check.cons(m, 2, Check.var(m, 0), Check.cons(m, 1, Check.wild(m), 0));
        int holding = Check.cons(m, 2, Check.wild(m), Check.var(m, 1));
        Check.plainRow(m, Check.or(m, failing, holding));
        m.compile();
        Check.due("C(A, D), whose left alternative fails after a write", ask(m, 3), 0);
        Check.due("bindings", bound(m), "-1 1 -1 -1 -1 -1 -1 -1");
    }

    private static void guardsSeeTheirOwnRowOnly() {
        BacktrackMatch m = Check.stocked();
        m.addRow(Check.var(m, 0), BacktrackMatch.G_LOW, 0, 0);
        m.addRow(Check.var(m, 1), BacktrackMatch.G_SAME, 0, 1);
        m.addRow(Check.wild(m), BacktrackMatch.G_LOW, 1, 9);
        Check.plainRow(m, Check.var(m, 2));
        m.compile();
        for (int round = 0; round < 2; round++) {
            Check.due("C(A, D)", ask(m, 3), 3);
            Check.due("bindings", bound(m), "-1 -1 3 -1 -1 -1 -1 -1");
            Check.due("the log", log(m), "log 0 1 2");
        }
    }

    /** With the two arguments changed over, no guard would hold here or be the row's. */
    private static void argumentsOfGuards() {
        BacktrackMatch m = Check.stocked();
        m.addRow(Check.as(m, 2, Check.cons(m, 1, Check.var(m, 1), 0)), BacktrackMatch.G_HEAD, 2, 1);
        m.addRow(Check.as(m, 1, Check.cons(m, 2, Check.wild(m), Check.wild(m))), BacktrackMatch.G_LOW, 1, 2);
        m.addRow(Check.cons(m, 2, Check.var(m, 4), Check.var(m, 3)), BacktrackMatch.G_DIFF, 3, 4);
        m.addRow(Check.as(m, 6, Check.var(m, 5)), BacktrackMatch.G_SAME, 5, 6);
        m.compile();
        int[] rows = {3, 3, 0, 1, 2, 1};
        for (int t = 0; t < rows.length; t++) {
            Check.due("match(" + t + ")", ask(m, t), rows[t]);
        }
    }

    private static void noGuard() {
        BacktrackMatch m = Check.stocked();
        Check.plainRow(m, Check.wild(m));
        m.compile();
        for (int t = 0; t < 6; t++) {
            Check.due("match(" + t + ")", ask(m, t), 0);
        }
    }

    /** Row 0 is C(x0, x7) with the guard; answers whether it is selected for each of the terms 3, 4, 5 and C(B(A), B(D)). */
    private static String holds(int kind, int g1, int g2) {
        BacktrackMatch m = Check.stocked();
        m.addRow(Check.cons(m, 2, Check.var(m, 0), Check.var(m, 7)), kind, g1, g2);
        m.compile();
        int last = m.term(2, 2, m.term(1, 1, 0));
        StringBuilder answers = new StringBuilder();
        for (int t : new int[] {3, 4, 5, last}) {
            answers.append(ask(m, t) == 0 ? '1' : '0');
            Check.due("the log", log(m), "log 0");
        }
        return answers.toString();
    }

    private static void sameOfUnbound() {
        for (int x = 1; x < 7; x++) {
            Check.due("same 0 " + x, holds(BacktrackMatch.G_SAME, 0, x), "0000");
            Check.due("same " + x + " 0", holds(BacktrackMatch.G_SAME, x, 0), "0000");
            for (int y = 1; y < 7; y++) {
                Check.due("same " + x + " " + y, holds(BacktrackMatch.G_SAME, x, y), "0000");
            }
        }
    }

    private static void sameOfBound() {
        Check.due("same 0 7", holds(BacktrackMatch.G_SAME, 0, 7), "0010");
        Check.due("same 7 0", holds(BacktrackMatch.G_SAME, 7, 0), "0010");
        Check.due("same 0 0", holds(BacktrackMatch.G_SAME, 0, 0), "1111");
        Check.due("same 7 7", holds(BacktrackMatch.G_SAME, 7, 7), "1111");
    }

    private static void diffOfUnbound() {
        for (int x = 1; x < 7; x++) {
            Check.due("diff 0 " + x, holds(BacktrackMatch.G_DIFF, 0, x), "0000");
            Check.due("diff " + x + " 0", holds(BacktrackMatch.G_DIFF, x, 0), "0000");
            for (int y = 1; y < 7; y++) {
                Check.due("diff " + x + " " + y, holds(BacktrackMatch.G_DIFF, x, y), "0000");
            }
        }
    }

    private static void diffOfBound() {
        Check.due("diff 0 7", holds(BacktrackMatch.G_DIFF, 0, 7), "1101");
        Check.due("diff 7 0", holds(BacktrackMatch.G_DIFF, 7, 0), "1101");
        Check.due("diff 0 0", holds(BacktrackMatch.G_DIFF, 0, 0), "0000");
        Check.due("diff 7 7", holds(BacktrackMatch.G_DIFF, 7, 7), "0000");
    }

    private static void headOfUnbound() {
        for (int x = 1; x < 7; x++) {
            for (int c = 0; c < 4; c++) {
                Check.due("head " + x + " " + c, holds(BacktrackMatch.G_HEAD, x, c), "0000");
            }
        }
    }

    private static void headOfBound() {
        String[] first = {"1010", "0101", "0000", "0000"};
        String[] second = {"0010", "0001", "0100", "1000"};
        for (int c = 0; c < 4; c++) {
            Check.due("head 0 " + c, holds(BacktrackMatch.G_HEAD, 0, c), first[c]);
            Check.due("head 7 " + c, holds(BacktrackMatch.G_HEAD, 7, c), second[c]);
        }
    }

    private static void lowOfUnbound() {
        for (int x = 1; x < 7; x++) {
            for (int k : new int[] {Integer.MIN_VALUE, -1, 0, 1, 64, Integer.MAX_VALUE}) {
                Check.due("low " + x + " " + k, holds(BacktrackMatch.G_LOW, x, k), "0000");
            }
        }
    }

    private static void lowOfBound() {
        Check.due("low 0 0", holds(BacktrackMatch.G_LOW, 0, 0), "0000");
        Check.due("low 0 1", holds(BacktrackMatch.G_LOW, 0, 1), "1010");
        Check.due("low 0 2", holds(BacktrackMatch.G_LOW, 0, 2), "1111");
        Check.due("low 7 1", holds(BacktrackMatch.G_LOW, 7, 1), "1010");
        Check.due("low 7 2", holds(BacktrackMatch.G_LOW, 7, 2), "1111");
        Check.due("low 7, greatest int", holds(BacktrackMatch.G_LOW, 7, Integer.MAX_VALUE), "1111");
        Check.due("low 7, least int", holds(BacktrackMatch.G_LOW, 7, Integer.MIN_VALUE), "0000");
    }

    private static void resultsAreCleared() {
        BacktrackMatch m = Check.stocked();
        int all = Check.cons(m, 2, Check.wild(m), Check.wild(m));
        for (int x = 0; x < 8; x++) {
            all = Check.as(m, x, all);
        }
        m.addRow(all, BacktrackMatch.G_LOW, 0, 3);
        m.compile();
        Check.due("C(A, D)", ask(m, 3), 0);
        Check.due("bindings", bound(m), "3 3 3 3 3 3 3 3");
        Check.due("the log", log(m), "log 0");
        Check.due("A", ask(m, 0), BacktrackMatch.NO_MATCH);
        Check.due("the results", Check.results(m), Check.noResults());
    }

    private static void rowsInOrder() {
        BacktrackMatch m = Check.stocked();
        for (int r = 0; r < 7; r++) {
            Check.failingRow(m, Check.var(m, r));
        }
        Check.plainRow(m, Check.var(m, 7));
        m.compile();
        Check.due("the last of eight rows", ask(m, 1), 7);
        Check.due("bindings", bound(m), "-1 -1 -1 -1 -1 -1 -1 1");
        Check.due("the log", log(m), "log 0 1 2 3 4 5 6");
        BacktrackMatch first = Check.stocked();
        for (int r = 0; r < 8; r++) {
            Check.plainRow(first, Check.var(first, r));
        }
        first.compile();
        Check.due("the first of eight rows", ask(first, 1), 0);
        Check.due("bindings", bound(first), "1 -1 -1 -1 -1 -1 -1 -1");
    }

    private static void unmatchedRowsArePassed() {
        BacktrackMatch m = Check.stocked();
        m.addRow(Check.as(m, 0, Check.leaf(m, 0)), BacktrackMatch.G_SAME, 0, 0);
        Check.plainRow(m, Check.as(m, 1, Check.leaf(m, 3)));
        m.addRow(Check.as(m, 2, Check.cons(m, 1, Check.wild(m), 0)), BacktrackMatch.G_SAME, 2, 2);
        m.compile();
        Check.due("B(A)", ask(m, 2), 2);
        Check.due("bindings", bound(m), "-1 -1 2 -1 -1 -1 -1 -1");
        Check.due("the log", log(m), "log 2");
    }

    private static void noGuardIsNotLogged() {
        BacktrackMatch m = Check.stocked();
        Check.failingRow(m, Check.var(m, 0));
        Check.plainRow(m, Check.leaf(m, 0));
        Check.failingRow(m, Check.var(m, 0));
        m.compile();
        Check.due("A", ask(m, 0), 1);
        Check.due("the log", log(m), "log 0");
    }

    private static void guardsAreLogged() {
        BacktrackMatch m = Check.stocked();
        m.addRow(Check.var(m, 0), BacktrackMatch.G_LOW, 0, 0);
        m.addRow(Check.cons(m, 1, Check.var(m, 0), 0), BacktrackMatch.G_LOW, 0, 9);
        m.addRow(Check.var(m, 0), BacktrackMatch.G_LOW, 0, 2);
        m.addRow(Check.var(m, 0), BacktrackMatch.G_LOW, 0, 9);
        m.compile();
        Check.due("B(A)", ask(m, 2), 1);
        Check.due("the log, a guard that holds at its end", log(m), "log 0 1");
        Check.due("C(A, D)", ask(m, 3), 2);
        Check.due("the log, without the row that does not match", log(m), "log 0 2");
        Check.due("C(B(A), C(A, D))", ask(m, 4), 3);
        Check.due("the log", log(m), "log 0 2 3");
    }

    private static void failedGuardTriesNoOtherAlternative() {
        BacktrackMatch m = Check.stocked();
        int left = Check.cons(m, 2, Check.var(m, 0), Check.wild(m));
        int right = Check.cons(m, 2, Check.wild(m), Check.var(m, 0));
        m.addRow(Check.or(m, left, right), BacktrackMatch.G_HEAD, 0, 3);
        m.compile();
        Check.due("C(A, D), whose right alternative would hold", ask(m, 3), BacktrackMatch.NO_MATCH);
        Check.due("bindings", bound(m), "-1 -1 -1 -1 -1 -1 -1 -1");
        Check.due("the log", log(m), "log 0");
    }

    private static void selectingStops() {
        BacktrackMatch m = Check.stocked();
        m.addRow(Check.var(m, 0), BacktrackMatch.G_SAME, 0, 0);
        m.addRow(Check.as(m, 0, Check.var(m, 1)), BacktrackMatch.G_SAME, 0, 0);
        Check.plainRow(m, Check.var(m, 2));
        m.compile();
        Check.due("D", ask(m, 1), 0);
        Check.due("lastRow()", m.lastRow(), 0);
        Check.due("bindings", bound(m), "1 -1 -1 -1 -1 -1 -1 -1");
        Check.due("the log", log(m), "log 0");
    }

    private static void failedRowsLeaveNoBindings() {
        BacktrackMatch m = Check.stocked();
        for (int r = 0; r < 8; r++) {
            m.addRow(Check.var(m, r), BacktrackMatch.G_LOW, r, 0);
        }
        m.compile();
        for (int t = 0; t < 6; t++) {
            Check.due("match(" + t + ")", ask(m, t), BacktrackMatch.NO_MATCH);
            Check.due("lastRow()", m.lastRow(), BacktrackMatch.NO_MATCH);
            Check.due("the counts", Check.counts(m), "counts -1 4 6 16 8 1 -1");
            Check.due("bindings", bound(m), "-1 -1 -1 -1 -1 -1 -1 -1");
            Check.due("the log", log(m), "log 0 1 2 3 4 5 6 7");
        }
    }

    /** Or-patterns with alternatives that all match would tempt a second run of the same guard. */
    private static void logIncreases() {
        BacktrackMatch m = Check.stocked();
        for (int r = 0; r < 8; r++) {
            int p = Check.or(m, Check.or(m, Check.var(m, 0), Check.var(m, 0)), Check.var(m, 1));
            m.addRow(p, BacktrackMatch.G_LOW, 0, r - 5);
        }
        m.compile();
        Check.due("A", ask(m, 0), 6);
        Check.due("the log", log(m), "log 0 1 2 3 4 5 6");
        Check.due("B(A)", ask(m, 2), 7);
        Check.due("the log", log(m), "log 0 1 2 3 4 5 6 7");
    }
}
