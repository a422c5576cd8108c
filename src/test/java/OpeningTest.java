import java.util.ArrayList;
import java.util.HashMap;
import java.util.List;
import java.util.Map;

/** What stands before the promises: the section 'What it is', what the constants mean, and what the state consists of. */
public final class OpeningTest {
    private static final int RUNS = 200;

    public static void main(String[] args) {
        whatItIs();
        constants();
        state();
        Check.end();
    }

    private static void whatItIs() {
        Check.sentence("The user declares up to eight constructors, each of arity 0, 1 or 2.", OpeningTest::eightOfEachArity);
        Check.sentence("Terms are built bottom-up in a shared store where structurally equal terms get equal ids.",
            OpeningTest::equalTermsEqualIds);
        Check.sentence("Patterns are built as trees of wildcards, as-bindings of eight variables, constructor patterns with nested sub-patterns, "
            + "and left-biased or-patterns.", OpeningTest::onePatternOfAllKinds);
        Check.sentence("Patterns go into up to eight rows, each with an optional guard.", OpeningTest::eightRowsWithAndWithoutGuards);
        Check.sentence("compile() fixes the rows.", OpeningTest::rowsAreFixed);
        Check.sentence("match(t) selects the first row, top to bottom, whose pattern matches t and whose guard holds.",
            OpeningTest::firstRowThatMatchesAndHolds);
        Check.sentence("matchInOrder(t) is a second call with exactly the same answers and the same effects.",
            OpeningTest::eitherCallInEveryPlace);
        Check.sentence("Afterwards the selected row, the bindings of the variables and a log of the guards that were run can be read back.",
            OpeningTest::resultsAreReadBack);
    }

    private static void constants() {
        Check.sentence("NO_MATCH = -1: answer of match, matchInOrder and lastRow when no row is selected.", OpeningTest::noMatch);
        Check.sentence("REFUSED = -2: answer of a refused match or matchInOrder.", OpeningTest::refused);
        Check.sentence("MAX_CONS = 8: most constructors that can be declared.", OpeningTest::mostConstructors);
        Check.sentence("NUM_VARS = 8: variables are 0..NUM_VARS-1.", OpeningTest::variables);
        Check.sentence("Selectors for count(what): COUNT_CONS = 0, COUNT_TERMS = 1, COUNT_PATTERNS = 2, COUNT_ROWS = 3, COUNT_COMPILED = 4.",
            OpeningTest::selectors);
    }

    private static void state() {
        Check.sentence("All state is in the object", OpeningTest::twoObjectsByTurns);
        Check.sentence("terms 0..termCount-1, each a constructor c and arity(c) child term ids.", OpeningTest::termsAreWhatWasAsked);
        Check.sentence("pattern nodes 0..patternCount-1, each with a kind, up to three arguments and a used flag",
            OpeningTest::everyIdIsANodeWithAFlag);
        Check.sentence("rows 0..rowCount-1, each with a pattern id, a guard kind and g1, g2", OpeningTest::rowsKeepTheirOwn);
        Check.sentence("results: lastRow, a binding for each variable 0..7 (-1 means unbound), and a guard log of up to 8 row indexes.",
            OpeningTest::largestResults);
    }

    private static void eightOfEachArity() {
        for (int arity = 0; arity <= 2; arity++) {
            BacktrackMatch m = new BacktrackMatch(64, 64, 8);
            for (int c = 0; c < 8; c++) {
                Check.due("constructor " + c + " of arity " + arity, m.defCons(arity), c);
            }
            Check.due("the ninth", m.defCons(arity), -1);
        }
    }

    /** The terms are named by their structure; there are two constructors of each arity. */
    private static void equalTermsEqualIds() {
        BacktrackMatch m = new BacktrackMatch(64, 64, 8);
        for (int c = 0; c < 6; c++) {
            m.defCons(c / 2);
        }
        Map<String, Integer> ids = new HashMap<>();
        List<String> names = new ArrayList<>();
        for (int step = 0; step < 3000; step++) {
            int c = names.isEmpty() ? 0 : step % 6;
            int t0 = names.isEmpty() ? 0 : step / 6 % names.size();
            int t1 = names.isEmpty() ? 0 : step / 13 % names.size();
            String name = c + (c < 2 ? "" : "(" + names.get(t0) + (c < 4 ? "" : "," + names.get(t1)) + ")");
            int due = ids.getOrDefault(name, names.size() < 64 ? names.size() : -1);
            Check.due(name, m.term(c, t0, t1), due);
            if (due == names.size()) {
                ids.put(name, due);
                names.add(name);
            }
        }
        Check.due("terms", names.size(), 64);
    }

    /** C(x0 as (B(x1) or x2), x3 as C(x4, D or x5 as (A or x6))) below x7. */
    private static void onePatternOfAllKinds() {
        BacktrackMatch m = Check.stocked();
        int left = Check.as(m, 0, Check.or(m, Check.cons(m, 1, Check.var(m, 1), 0), Check.var(m, 2)));
        int inner = Check.or(m, Check.leaf(m, 3), Check.as(m, 5, Check.or(m, Check.leaf(m, 0), Check.var(m, 6))));
        int right = Check.as(m, 3, Check.cons(m, 2, Check.var(m, 4), inner));
        Check.plainRow(m, Check.as(m, 7, Check.cons(m, 2, left, right)));
        int deep = m.term(2, 0, m.term(2, 1, 2));
        int low = m.term(2, 2, 5);
        m.compile();
        Check.due("C(B(A), C(A, D))", m.match(4), 0);
        Check.due("the results", Check.results(m), "row 0 bindings -1 -1 2 0 -1 3 0 -1 -1 4 -1 -1 log 0:" + " -1".repeat(12));
        Check.due("C(A, C(D, B(A)))", m.match(deep), 0);
        Check.due("the results", Check.results(m), "row 0 bindings -1 -1 0 -1 0 6 1 2 2 7 -1 -1 log 0:" + " -1".repeat(12));
        Check.due("C(B(A), C(A, A))", m.match(low), 0);
        Check.due("the results", Check.results(m), "row 0 bindings -1 -1 2 0 -1 5 0 0 -1 8 -1 -1 log 0:" + " -1".repeat(12));
        Check.due("C(A, D)", m.match(3), BacktrackMatch.NO_MATCH);
    }

    private static void eightRowsWithAndWithoutGuards() {
        BacktrackMatch m = Check.stocked();
        int[] guards = {0, 4, 0, 3, 2, 0, 1, 0};
        for (int r = 0; r < 8; r++) {
            Check.due("row " + r, m.addRow(Check.var(m, r), guards[r], 0, 1), r);
        }
        Check.due("a ninth row", Check.plainRow(m, Check.wild(m)), -1);
        Check.due("the rows that are fixed", m.compile(), 8);
    }

    private static void rowsAreFixed() {
        BacktrackMatch m = Check.stocked();
        Check.plainRow(m, Check.leaf(m, 0));
        int free = Check.wild(m);
        m.compile();
        Check.due("a row after compile", Check.plainRow(m, free), -1);
        Check.due("a pattern after compile", Check.wild(m), -1);
        Check.due("compile after compile", m.compile(), -1);
        Check.due("D", m.match(1), BacktrackMatch.NO_MATCH);
        Check.due("A", m.match(0), 0);
    }

    /** Each of the rows before the one that is due misses by its pattern or by its guard. */
    private static void firstRowThatMatchesAndHolds() {
        BacktrackMatch m = Check.stocked();
        m.addRow(Check.as(m, 0, Check.leaf(m, 3)), BacktrackMatch.G_HEAD, 0, 0);
        Check.plainRow(m, Check.cons(m, 1, Check.wild(m), 0));
        m.addRow(Check.cons(m, 2, Check.var(m, 0), Check.var(m, 1)), BacktrackMatch.G_SAME, 0, 1);
        m.addRow(Check.var(m, 0), BacktrackMatch.G_LOW, 0, 1);
        Check.plainRow(m, Check.cons(m, 2, Check.leaf(m, 0), Check.wild(m)));
        m.compile();
        int[] rows = {3, 3, 1, 4, BacktrackMatch.NO_MATCH, 2};
        for (int t = 0; t < rows.length; t++) {
            Check.due("match(" + t + ")", m.match(t), rows[t]);
        }
    }

    /** One run of calls as it comes, and the same run with each of the two calls in the other's place. */
    private static void eitherCallInEveryPlace() {
        MixedRuns runs = new MixedRuns();
        for (int run = 0; run < RUNS; run++) {
            int[] size = runs.capacities();
            String when = "run " + run;
            BacktrackMatch one = new BacktrackMatch(size[0], size[1], size[2]);
            BacktrackMatch other = new BacktrackMatch(size[0], size[1], size[2]);
            runs.run(one, call -> {
                int answer = Calls.make(call, one);
                Check.due(when + " " + Calls.text(call), Calls.make(changedOver(call), other), answer);
                Check.due(when + ": the results after " + Calls.text(call), Check.results(other), Check.results(one));
            });
            Check.same(when + ": what is left", other, one);
        }
    }

    private static int[] changedOver(int[] call) {
        int[] changed = call.clone();
        if (call[0] == Calls.MATCH || call[0] == Calls.MATCH_IN_ORDER) {
            changed[0] = Calls.MATCH + Calls.MATCH_IN_ORDER - call[0];
        }
        return changed;
    }

    private static void resultsAreReadBack() {
        Check.dueAsMatched(Check.matched());
    }

    private static void noMatch() {
        Check.due("NO_MATCH", BacktrackMatch.NO_MATCH, -1);
        BacktrackMatch m = Check.stocked();
        Check.due("lastRow() at first", m.lastRow(), BacktrackMatch.NO_MATCH);
        Check.plainRow(m, Check.leaf(m, 0));
        m.compile();
        m.match(0);
        Check.due("match(1)", m.match(1), BacktrackMatch.NO_MATCH);
        Check.due("lastRow()", m.lastRow(), BacktrackMatch.NO_MATCH);
        m.match(0);
        Check.due("matchInOrder(1)", m.matchInOrder(1), BacktrackMatch.NO_MATCH);
        Check.due("lastRow()", m.lastRow(), BacktrackMatch.NO_MATCH);
    }

    private static void refused() {
        Check.due("REFUSED", BacktrackMatch.REFUSED, -2);
        BacktrackMatch open = Check.stocked();
        Check.due("match(0) before compile", open.match(0), BacktrackMatch.REFUSED);
        Check.due("matchInOrder(0) before compile", open.matchInOrder(0), BacktrackMatch.REFUSED);
        BacktrackMatch m = Check.matched();
        Check.due("match(6) of six terms", m.match(6), BacktrackMatch.REFUSED);
        Check.due("matchInOrder(6) of six terms", m.matchInOrder(6), BacktrackMatch.REFUSED);
        Check.dueAsMatched(m);
    }

    private static void mostConstructors() {
        BacktrackMatch m = new BacktrackMatch(8, 8, 1);
        for (int tries = 0; tries < 20; tries++) {
            m.defCons(tries % 3);
        }
        Check.due("constructors", m.count(BacktrackMatch.COUNT_CONS), BacktrackMatch.MAX_CONS);
    }

    private static void variables() {
        BacktrackMatch m = Check.stocked();
        int q = Check.wild(m);
        for (int x = 0; x < BacktrackMatch.NUM_VARS; x++) {
            q = Check.as(m, x, q);
            Check.due("the pattern that binds " + x, q, x + 1);
        }
        Check.due("a variable too high", Check.as(m, BacktrackMatch.NUM_VARS, q), -1);
        Check.due("a variable too low", Check.as(m, -1, q), -1);
        Check.plainRow(m, q);
        m.compile();
        m.match(1);
        for (int x = 0; x < BacktrackMatch.NUM_VARS; x++) {
            Check.due("binding(" + x + ")", m.binding(x), 1);
        }
    }

    private static void selectors() {
        BacktrackMatch m = Check.matched();
        int[] due = {4, 6, 11, 3, 1};
        for (int what = 0; what < due.length; what++) {
            Check.due("count(" + what + ")", m.count(what), due[what]);
        }
    }

    /** Two runs, each on an object alone, and then call by call by turns on two new objects. */
    private static void twoObjectsByTurns() {
        MixedRuns runs = new MixedRuns();
        for (int run = 0; run < RUNS; run++) {
            List<int[]> firstCalls = new ArrayList<>();
            List<int[]> secondCalls = new ArrayList<>();
            List<String> firstDue = new ArrayList<>();
            List<String> secondDue = new ArrayList<>();
            int[] size = runs.capacities();
            BacktrackMatch first = recorded(runs, size, firstCalls, firstDue);
            BacktrackMatch second = recorded(runs, new int[] {64, 64, 8}, secondCalls, secondDue);
            BacktrackMatch firstAgain = new BacktrackMatch(size[0], size[1], size[2]);
            BacktrackMatch secondAgain = new BacktrackMatch(64, 64, 8);
            for (int n = 0; n < firstCalls.size() || n < secondCalls.size(); n++) {
                again(run, n, firstAgain, firstCalls, firstDue);
                again(run, n, secondAgain, secondCalls, secondDue);
            }
            Check.same("run " + run + ": what is left of the first", firstAgain, first);
            Check.same("run " + run + ": what is left of the second", secondAgain, second);
        }
    }

    private static BacktrackMatch recorded(MixedRuns runs, int[] size, List<int[]> calls, List<String> answers) {
        BacktrackMatch m = new BacktrackMatch(size[0], size[1], size[2]);
        runs.run(m, call -> {
            calls.add(call);
            answers.add(Calls.make(call, m) + " " + Check.results(m) + " " + Check.counts(m));
        });
        return m;
    }

    private static void again(int run, int n, BacktrackMatch m, List<int[]> calls, List<String> answers) {
        if (n < calls.size()) {
            int answer = Calls.make(calls.get(n), m);
            String got = answer + " " + Check.results(m) + " " + Check.counts(m);
            Check.due("run " + run + " " + Calls.text(calls.get(n)), got, answers.get(n));
        }
    }

    /** A pattern of the term's own constructor binds the children that were asked for. */
    private static void termsAreWhatWasAsked() {
        BacktrackMatch m = Check.stocked();
        for (int c = 0; c < 4; c++) {
            Check.plainRow(m, Check.cons(m, c, Check.var(m, 0), Check.var(m, 1)));
        }
        m.compile();
        int[][] due = {{0, -1, -1}, {3, -1, -1}, {1, 0, -1}, {2, 0, 1}, {2, 2, 3}, {2, 0, 0}};
        for (int t = 0; t < due.length; t++) {
            Check.due("the constructor of " + t, m.match(t), due[t][0]);
            Check.due("child 0 of " + t, m.binding(0), due[t][1]);
            Check.due("child 1 of " + t, m.binding(1), due[t][2]);
        }
    }

    /** Every id serves once, as a child or as a row's pattern, and not a second time. */
    private static void everyIdIsANodeWithAFlag() {
        for (int p = 0; p < 64; p++) {
            BacktrackMatch m = Check.stocked();
            Check.fillPatterns(m);
            Check.due("pattern " + p + " in a row", Check.plainRow(m, p), 0);
            Check.due("pattern " + p + " in a second row", Check.plainRow(m, p), -1);
            Check.due("another pattern in a row", Check.plainRow(m, (p + 1) % 64), 1);
        }
        for (int p = 0; p < 62; p++) {
            BacktrackMatch m = Check.stocked();
            for (int n = 0; n < 62; n++) {
                Check.wild(m);
            }
            Check.due("pattern " + p + " as a child", Check.as(m, 0, p), 62);
            Check.due("pattern " + p + " as a child again", Check.as(m, 0, p), -1);
            Check.due("pattern " + p + " in a row", Check.plainRow(m, p), -1);
            Check.due("another pattern as a child", Check.as(m, 0, (p + 1) % 62), 63);
        }
    }

    /** Row r binds variable r and lets pass what is no higher than r + 1; then one row of each guard kind. */
    private static void rowsKeepTheirOwn() {
        BacktrackMatch m = Check.declared();
        for (int r = 0; r < 8; r++) {
            m.addRow(Check.var(m, r), BacktrackMatch.G_LOW, r, r + 1);
        }
        m.compile();
        int t = m.term(0, 0, 0);
        for (int r = 0; r < 8; r++) {
            Check.due("the row for height " + (r + 1), m.match(t), r);
            Check.due("binding(" + r + ")", m.binding(r), t);
            t = m.term(1, t, 0);
        }
        Check.due("the row for height 9", m.match(t), BacktrackMatch.NO_MATCH);
        BacktrackMatch kinds = Check.stocked();
        kinds.addRow(Check.cons(kinds, 2, Check.var(kinds, 0), Check.var(kinds, 1)), BacktrackMatch.G_SAME, 0, 1);
        kinds.addRow(Check.cons(kinds, 2, Check.var(kinds, 2), Check.var(kinds, 3)), BacktrackMatch.G_HEAD, 3, 3);
        kinds.addRow(Check.cons(kinds, 2, Check.var(kinds, 4), Check.var(kinds, 5)), BacktrackMatch.G_DIFF, 4, 5);
        kinds.addRow(Check.var(kinds, 6), BacktrackMatch.G_LOW, 6, 1);
        Check.plainRow(kinds, Check.var(kinds, 7));
        kinds.compile();
        int[] rows = {3, 3, 4, 1, 2, 0};
        for (t = 0; t < rows.length; t++) {
            Check.due("match(" + t + ")", kinds.match(t), rows[t]);
        }
    }

    private static void largestResults() {
        BacktrackMatch m = Check.stocked();
        for (int r = 0; r < 7; r++) {
            Check.failingRow(m, Check.wild(m));
        }
        int all = Check.wild(m);
        for (int x = 0; x < 8; x++) {
            all = Check.as(m, x, all);
        }
        m.addRow(all, BacktrackMatch.G_SAME, 0, 7);
        m.compile();
        Check.due("match(5)", m.match(5), 7);
        Check.due("the results", Check.results(m),
            "row 7 bindings -1 -1" + " 5".repeat(8) + " -1 -1 log 8: -1 -1 0 1 2 3 4 5 6 7 -1 -1");
    }
}
