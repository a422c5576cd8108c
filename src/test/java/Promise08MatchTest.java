/** Promise 8: match and matchInOrder select the same first row, with its bindings and the log of the guards run. */
public final class Promise08MatchTest {
    public static void main(String[] args) {
        for (boolean inOrder : new boolean[] {false, true}) {
            refusals(inOrder);
            firstRowWins(inOrder);
            nestedConstructors(inOrder);
            leftAlternativeFirst(inOrder);
            rightAlternativeIfLeftFails(inOrder);
            failedGuardTriesNoOtherAlternative(inOrder);
            lastWriteCounts(inOrder);
            outerAsWritesLast(inOrder);
            failedAlternativeWritesNothing(inOrder);
            sameAndDiff(inOrder);
            head(inOrder);
            low(inOrder);
            guardsOnUnboundVariables(inOrder);
            guardsSeeTheirOwnRowOnly(inOrder);
            guardLogStopsAtTheSelectedRow(inOrder);
            resultsAreReplaced(inOrder);
            deepPattern(inOrder);
        }
        nothingButTheResultsChanges();
        Check.end();
    }

    private static int ask(BacktrackMatch m, boolean inOrder, int t) {
        return inOrder ? m.matchInOrder(t) : m.match(t);
    }

    private static void dueLog(BacktrackMatch m, int... rows) {
        Check.due("guardLogLength()", m.guardLogLength(), rows.length);
        for (int i = 0; i < rows.length; i++) {
            Check.due("guardLogAt(" + i + ")", m.guardLogAt(i), rows[i]);
        }
    }

    private static void refusals(boolean inOrder) {
        BacktrackMatch m = Check.stocked();
        m.addRow(Check.var(m, 6), BacktrackMatch.G_LOW, 6, 1);
        Check.due("not compiled", ask(m, inOrder, 0), BacktrackMatch.REFUSED);
        Check.due("neither compiled nor a term", ask(m, inOrder, -1), BacktrackMatch.REFUSED);
        m.compile();
        Check.due("the first match", ask(m, inOrder, 1), 0);
        String before = Check.picture(m);
        for (int t : Check.OUTSIDE_INTS) {
            Check.due("match(" + t + ")", ask(m, inOrder, t), BacktrackMatch.REFUSED);
        }
        Check.due("match(6), one past the last", ask(m, inOrder, 6), BacktrackMatch.REFUSED);
        Check.due("the picture after refusals", Check.picture(m), before);
    }

    private static void firstRowWins(boolean inOrder) {
        BacktrackMatch m = Check.stocked();
        Check.plainRow(m, Check.cons(m, 2, Check.var(m, 0), Check.wild(m)));
        Check.plainRow(m, Check.var(m, 1));
        Check.plainRow(m, Check.var(m, 2));
        m.compile();
        Check.due("C(A, D)", ask(m, inOrder, 3), 0);
        Check.due("binding(0)", m.binding(0), 0);
        Check.due("binding(1)", m.binding(1), -1);
        Check.due("B(A)", ask(m, inOrder, 2), 1);
        Check.due("binding(0)", m.binding(0), -1);
        Check.due("binding(1)", m.binding(1), 2);
        Check.due("binding(2)", m.binding(2), -1);
        dueLog(m);
    }

    private static void nestedConstructors(boolean inOrder) {
        BacktrackMatch m = Check.stocked();
        int left = Check.cons(m, 1, Check.var(m, 0), 0);
        int right = Check.cons(m, 2, Check.var(m, 1), Check.as(m, 2, Check.cons(m, 3, 0, 0)));
        Check.plainRow(m, Check.as(m, 3, Check.cons(m, 2, left, right)));
        m.compile();
        Check.due("C(B(A), C(A, D))", ask(m, inOrder, 4), 0);
        Check.due("binding(0)", m.binding(0), 0);
        Check.due("binding(1)", m.binding(1), 0);
        Check.due("binding(2)", m.binding(2), 1);
        Check.due("binding(3)", m.binding(3), 4);
        for (int t : new int[] {0, 1, 2, 3, 5}) {
            Check.due("match(" + t + ")", ask(m, inOrder, t), BacktrackMatch.NO_MATCH);
            Check.due("binding(3)", m.binding(3), -1);
        }
        int almost = m.term(2, 2, 5);
        Check.due("C(B(A), C(A, A))", ask(m, inOrder, almost), BacktrackMatch.NO_MATCH);
    }

    private static void leftAlternativeFirst(boolean inOrder) {
        BacktrackMatch m = Check.stocked();
        Check.plainRow(m, Check.or(m, Check.var(m, 0), Check.var(m, 1)));
        m.compile();
        Check.due("match", ask(m, inOrder, 2), 0);
        Check.due("binding(0)", m.binding(0), 2);
        Check.due("binding(1)", m.binding(1), -1);
    }

    private static void rightAlternativeIfLeftFails(boolean inOrder) {
        BacktrackMatch m = Check.stocked();
        int left = Check.cons(m, 2, Check.var(m, 0), Check.cons(m, 3, 0, 0));
        int right = Check.cons(m, 2, Check.var(m, 1), Check.var(m, 2));
        Check.plainRow(m, Check.or(m, left, right));
        m.compile();
        Check.due("C(A, D)", ask(m, inOrder, 3), 0);
        Check.due("binding(0)", m.binding(0), 0);
        Check.due("binding(1)", m.binding(1), -1);
        Check.due("C(B(A), C(A, D))", ask(m, inOrder, 4), 0);
        Check.due("binding(0)", m.binding(0), -1);
        Check.due("binding(1)", m.binding(1), 2);
        Check.due("binding(2)", m.binding(2), 3);
        Check.due("D", ask(m, inOrder, 1), BacktrackMatch.NO_MATCH);
    }

    private static void failedGuardTriesNoOtherAlternative(boolean inOrder) {
        BacktrackMatch m = Check.stocked();
        int left = Check.cons(m, 2, Check.var(m, 0), Check.wild(m));
        int right = Check.cons(m, 2, Check.wild(m), Check.var(m, 0));
        m.addRow(Check.or(m, left, right), BacktrackMatch.G_HEAD, 0, 3);
        m.compile();
        Check.due("C(A, D), whose right alternative would hold", ask(m, inOrder, 3), BacktrackMatch.NO_MATCH);
        Check.due("binding(0)", m.binding(0), -1);
        dueLog(m, 0);
    }

    /** Child 1 writes after child 0, whichever of the two patterns was built first. */
    private static void lastWriteCounts(boolean inOrder) {
        for (boolean secondBuiltFirst : new boolean[] {false, true}) {
            BacktrackMatch m = Check.stocked();
            int one = Check.var(m, 0);
            int two = Check.var(m, 0);
            Check.plainRow(m, secondBuiltFirst ? Check.cons(m, 2, two, one) : Check.cons(m, 2, one, two));
            m.compile();
            Check.due("C(A, D)", ask(m, inOrder, 3), 0);
            Check.due("binding(0), written twice", m.binding(0), 1);
            Check.due("C(B(A), C(A, D))", ask(m, inOrder, 4), 0);
            Check.due("binding(0), written twice", m.binding(0), 3);
        }
    }

    private static void outerAsWritesLast(boolean inOrder) {
        BacktrackMatch m = Check.stocked();
        int inner = Check.cons(m, 2, Check.var(m, 0), Check.var(m, 1));
        Check.plainRow(m, Check.as(m, 0, Check.as(m, 2, inner)));
        m.compile();
        Check.due("C(A, D)", ask(m, inOrder, 3), 0);
        Check.due("binding(0)", m.binding(0), 3);
        Check.due("binding(1)", m.binding(1), 1);
        Check.due("binding(2)", m.binding(2), 3);
    }

    private static void failedAlternativeWritesNothing(boolean inOrder) {
        BacktrackMatch m = Check.stocked();
        int failing = Check.cons(m, 2, Check.var(m, 0), Check.cons(m, 1, Check.wild(m), 0));
        int holding = Check.cons(m, 2, Check.wild(m), Check.var(m, 1));
        m.addRow(Check.or(m, failing, holding), BacktrackMatch.G_SAME, 0, 0);
        Check.plainRow(m, Check.or(m, Check.cons(m, 1, Check.var(m, 4), 0), Check.var(m, 5)));
        m.compile();
        Check.due("C(A, D)", ask(m, inOrder, 3), 1);
        dueLog(m, 0);
        Check.due("binding(0) of a failed row", m.binding(0), -1);
        Check.due("binding(1) of a failed row", m.binding(1), -1);
        Check.due("binding(4) of a failed alternative", m.binding(4), -1);
        Check.due("binding(5)", m.binding(5), 3);
    }

    private static void sameAndDiff(boolean inOrder) {
        BacktrackMatch m = Check.stocked();
        m.addRow(Check.cons(m, 2, Check.var(m, 0), Check.var(m, 7)), BacktrackMatch.G_SAME, 0, 7);
        m.addRow(Check.cons(m, 2, Check.var(m, 3), Check.var(m, 4)), BacktrackMatch.G_DIFF, 4, 3);
        m.addRow(Check.var(m, 0), BacktrackMatch.G_DIFF, 0, 0);
        m.addRow(Check.var(m, 0), BacktrackMatch.G_SAME, 0, 0);
        m.compile();
        Check.due("C(A, A)", ask(m, inOrder, 5), 0);
        dueLog(m, 0);
        Check.due("C(A, D)", ask(m, inOrder, 3), 1);
        dueLog(m, 0, 1);
        Check.due("B(A)", ask(m, inOrder, 2), 3);
        dueLog(m, 2, 3);
    }

    private static void head(boolean inOrder) {
        BacktrackMatch m = Check.stocked();
        for (int c = 3; c >= 0; c--) {
            m.addRow(Check.var(m, c), BacktrackMatch.G_HEAD, c, c);
        }
        m.compile();
        int[] constructors = {0, 3, 1, 2, 2, 2};
        for (int t = 0; t < 6; t++) {
            Check.due("match(" + t + ")", ask(m, inOrder, t), 3 - constructors[t]);
            Check.due("guards run for " + t, m.guardLogLength(), 4 - constructors[t]);
        }
    }

    private static void low(boolean inOrder) {
        BacktrackMatch m = Check.stocked();
        m.addRow(Check.var(m, 0), BacktrackMatch.G_LOW, 0, 1);
        m.addRow(Check.var(m, 1), BacktrackMatch.G_LOW, 1, 2);
        m.compile();
        int[] rows = {0, 0, 1, 1, -1, 1};
        for (int t = 0; t < 6; t++) {
            Check.due("match(" + t + ")", ask(m, inOrder, t), rows[t]);
        }
    }

    private static void guardsOnUnboundVariables(boolean inOrder) {
        int[][] guards = {
            {BacktrackMatch.G_SAME, 1, 2}, {BacktrackMatch.G_SAME, 0, 1}, {BacktrackMatch.G_SAME, 1, 0},
            {BacktrackMatch.G_SAME, 1, 1}, {BacktrackMatch.G_DIFF, 1, 2}, {BacktrackMatch.G_DIFF, 0, 1},
            {BacktrackMatch.G_DIFF, 1, 0}, {BacktrackMatch.G_HEAD, 1, 0}, {BacktrackMatch.G_LOW, 1, Integer.MAX_VALUE},
        };
        for (int[] guard : guards) {
            BacktrackMatch m = Check.stocked();
            m.addRow(Check.var(m, 0), guard[0], guard[1], guard[2]);
            m.compile();
            String name = "guard " + guard[0] + " " + guard[1] + " " + guard[2];
            Check.due(name, ask(m, inOrder, 0), BacktrackMatch.NO_MATCH);
            dueLog(m, 0);
        }
    }

    private static void guardsSeeTheirOwnRowOnly(boolean inOrder) {
        BacktrackMatch m = Check.stocked();
        m.addRow(Check.var(m, 0), BacktrackMatch.G_LOW, 0, 0);
        m.addRow(Check.var(m, 1), BacktrackMatch.G_SAME, 0, 1);
        Check.plainRow(m, Check.var(m, 2));
        m.compile();
        Check.due("match", ask(m, inOrder, 3), 2);
        Check.due("binding(0)", m.binding(0), -1);
        Check.due("binding(1)", m.binding(1), -1);
        Check.due("binding(2)", m.binding(2), 3);
        dueLog(m, 0, 1);
    }

    private static void guardLogStopsAtTheSelectedRow(boolean inOrder) {
        BacktrackMatch m = Check.stocked();
        m.addRow(Check.var(m, 0), BacktrackMatch.G_LOW, 0, 0);
        m.addRow(Check.cons(m, 1, Check.var(m, 0), 0), BacktrackMatch.G_LOW, 0, 9);
        Check.plainRow(m, Check.cons(m, 0, 0, 0));
        m.addRow(Check.var(m, 0), BacktrackMatch.G_LOW, 0, 2);
        m.addRow(Check.var(m, 0), BacktrackMatch.G_LOW, 0, 9);
        m.compile();
        Check.due("A", ask(m, inOrder, 0), 2);
        dueLog(m, 0);
        Check.due("B(A)", ask(m, inOrder, 2), 1);
        dueLog(m, 0, 1);
        Check.due("C(A, D)", ask(m, inOrder, 3), 3);
        dueLog(m, 0, 3);
        Check.due("C(B(A), C(A, D))", ask(m, inOrder, 4), 4);
        dueLog(m, 0, 3, 4);
    }

    private static void resultsAreReplaced(boolean inOrder) {
        BacktrackMatch m = Check.stocked();
        m.addRow(Check.cons(m, 2, Check.var(m, 0), Check.var(m, 1)), BacktrackMatch.G_DIFF, 0, 1);
        m.compile();
        String untouched = Check.results(m);
        Check.due("C(A, D)", ask(m, inOrder, 3), 0);
        Check.due("A", ask(m, inOrder, 0), BacktrackMatch.NO_MATCH);
        Check.due("the results after no match", Check.results(m), untouched);
        Check.due("C(A, D)", ask(m, inOrder, 3), 0);
        Check.due("C(A, A)", ask(m, inOrder, 5), BacktrackMatch.NO_MATCH);
        Check.due("lastRow()", m.lastRow(), BacktrackMatch.NO_MATCH);
        Check.due("binding(0)", m.binding(0), -1);
        dueLog(m, 0);
    }

    /** One tree of all 64 patterns, once as a chain and once as wide as it can be. */
    private static void deepPattern(boolean inOrder) {
        BacktrackMatch chain = Check.stocked();
        int p = Check.wild(chain);
        for (int n = 1; n < 64; n++) {
            p = Check.as(chain, n % 8, p);
        }
        Check.due("the root of the chain", p, 63);
        Check.plainRow(chain, p);
        chain.compile();
        Check.due("the chain", ask(chain, inOrder, 4), 0);
        Check.due("binding(0) of the chain", chain.binding(0), 4);

        BacktrackMatch wide = Check.stocked();
        int t = 0;
        p = Check.var(wide, 0);
        for (int n = 0; n < 20; n++) {
            p = Check.cons(wide, 2, Check.var(wide, 1), p);
            t = wide.term(2, n % 2, t);
        }
        Check.due("the root of the wide one", p, 61);
        Check.plainRow(wide, p);
        wide.compile();
        Check.due("the wide one", ask(wide, inOrder, t), 0);
        Check.due("binding(0) of the wide one", wide.binding(0), 0);
        Check.due("binding(1) of the wide one", wide.binding(1), 0);
    }

    private static void nothingButTheResultsChanges() {
        BacktrackMatch m = Check.stocked();
        m.addRow(Check.or(m, Check.var(m, 0), Check.var(m, 1)), BacktrackMatch.G_HEAD, 0, 2);
        Check.plainRow(m, Check.cons(m, 1, Check.var(m, 2), 0));
        m.compile();
        m.match(4);
        String before = Check.picture(m);
        for (int t = 0; t < 6; t++) {
            m.match(t);
            String afterMatch = Check.picture(m);
            m.match(5 - t);
            m.matchInOrder(t);
            Check.due("the picture after matchInOrder(" + t + ")", Check.picture(m), afterMatch);
        }
        m.match(4);
        Check.due("the picture after the same match", Check.picture(m), before);
    }
}
