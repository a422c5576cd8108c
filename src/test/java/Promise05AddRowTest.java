/** Promise 5: addRow appends rows and refuses in the order of the document. */
public final class Promise05AddRowTest {
    public static void main(String[] args) {
        Check.sentence("1. compiled", Promise05AddRowTest::refusedWhenCompiled);
        Check.sentence("2. rowCount == rowCapacity", Promise05AddRowTest::refusedWhenFull);
        Check.sentence("3. p outside 0..patternCount-1", Promise05AddRowTest::patternsThatAreNotThere);
        Check.sentence("3. [..] or p's used flag is true", Promise05AddRowTest::patternsThatAreUsed);
        Check.sentence("4. guardKind outside 0..4", Promise05AddRowTest::refusedGuardKinds);
        Check.sentence("G_NONE: g1, g2 ignored", Promise05AddRowTest::noGuardIgnoresAll);
        Check.sentence("G_SAME, [..] g1 and g2 in 0..7", () -> twoVariables(BacktrackMatch.G_SAME));
        Check.sentence("G_DIFF: g1 and g2 in 0..7", () -> twoVariables(BacktrackMatch.G_DIFF));
        Check.sentence("G_HEAD: g1 in 0..7", () -> oneVariable(BacktrackMatch.G_HEAD));
        Check.sentence("and g2 in 0..consCount-1", Promise05AddRowTest::constructorsOfHead);
        Check.sentence("G_LOW: g1 in 0..7", () -> oneVariable(BacktrackMatch.G_LOW));
        Check.sentence("g2 any int (the bound k)", Promise05AddRowTest::boundsOfLow);
        Check.sentence("tests in order, and each refusal answers -1", Promise05AddRowTest::severalReasons);
        Check.sentence("Otherwise p gets used = true", Promise05AddRowTest::patternGetsUsed);
        Check.sentence("the row gets index rowCount [..] rowCount grows by 1, and the index is the answer", Promise05AddRowTest::indexesCountUp);
        Check.sentence("with pattern p, the guard kind, g1 and g2", Promise05AddRowTest::rowsKeepTheirGuards);
        Check.sentence("Nothing else changes.", Promise05AddRowTest::nothingElseChanges);
        Check.sentence("A refusal changes nothing.", Promise05AddRowTest::refusalsLeaveThePatternFree);
        Check.sentence("For G_LOW the bound k is compared as a plain int", Promise05AddRowTest::boundsAreComparedAsInts);
        Check.sentence("any k below 1 makes the guard false for every term", Promise05AddRowTest::boundsBelowOne);
        Check.end();
    }

    /** Pattern 0 is used by 1, which is row 0's; 2 and 3 are free. */
    private static BacktrackMatch open() {
        return open(8);
    }

    private static BacktrackMatch open(int rowCapacity) {
        BacktrackMatch m = Check.stocked(64, 64, rowCapacity);
        Check.plainRow(m, Check.as(m, 0, Check.wild(m)));
        Check.wild(m);
        Check.wild(m);
        return m;
    }

    private static BacktrackMatch compiled() {
        BacktrackMatch m = open();
        m.compile();
        return m;
    }

    private static void dueEveryKindRefused(String when, BacktrackMatch m) {
        for (int kind = BacktrackMatch.G_NONE; kind <= BacktrackMatch.G_LOW; kind++) {
            Check.due("guard kind " + kind + " " + when, m.addRow(2, kind, 0, 0), -1);
        }
    }

    private static void refusedWhenCompiled() {
        BacktrackMatch m = compiled();
        dueEveryKindRefused("when compiled", m);
        Check.same("what is left after the refusals", m, compiled());
        m = compiled();
        m.reset();
        Check.due("row after reset", Check.plainRow(m, Check.wild(m)), 0);
    }

    private static BacktrackMatch full(int rowCapacity) {
        BacktrackMatch m = open(rowCapacity);
        while (m.count(BacktrackMatch.COUNT_ROWS) < rowCapacity) {
            Check.plainRow(m, Check.wild(m));
        }
        return m;
    }

    private static void refusedWhenFull() {
        for (int capacity = 1; capacity <= 8; capacity++) {
            BacktrackMatch m = full(capacity);
            dueEveryKindRefused("with " + capacity + " rows", m);
            Check.due("rows", m.count(BacktrackMatch.COUNT_ROWS), capacity);
            Check.same("what is left after the refusals", m, full(capacity));
        }
    }

    private static void patternsThatAreNotThere() {
        BacktrackMatch m = open();
        for (int p : Check.outside(4)) {
            Check.due("row of pattern " + p, Check.plainRow(m, p), -1);
            Check.due("guarded row of pattern " + p, m.addRow(p, BacktrackMatch.G_LOW, 0, 1), -1);
        }
        Check.same("what is left after the refusals", m, open());
        BacktrackMatch empty = Check.declared();
        for (int p : Check.outside(0)) {
            Check.due("row of pattern " + p + " where there is none", Check.plainRow(empty, p), -1);
        }
        Check.same("what is left of an object without patterns", empty, Check.declared());
        BacktrackMatch emptied = open();
        emptied.reset();
        for (int p = 0; p < 4; p++) {
            Check.due("row of pattern " + p + " after reset", Check.plainRow(emptied, p), -1);
        }
    }

    private static void patternsThatAreUsed() {
        BacktrackMatch m = open();
        for (int kind = BacktrackMatch.G_NONE; kind <= BacktrackMatch.G_LOW; kind++) {
            Check.due("row of a child, guard kind " + kind, m.addRow(0, kind, 0, 0), -1);
            Check.due("row of a row's pattern, guard kind " + kind, m.addRow(1, kind, 0, 0), -1);
        }
        Check.same("what is left after the refusals", m, open());
    }

    private static void refusedGuardKinds() {
        BacktrackMatch m = open();
        for (int kind : Check.outside(5)) {
            Check.due("guard kind " + kind, m.addRow(2, kind, 0, 0), -1);
        }
        Check.same("what is left after the refusals", m, open());
    }

    private static void noGuardIgnoresAll() {
        for (int odd : Check.outside(8)) {
            BacktrackMatch m = Check.stocked();
            Check.due("no guard with g1 = " + odd, m.addRow(Check.wild(m), BacktrackMatch.G_NONE, odd, 0), 0);
            Check.due("no guard with g2 = " + odd, m.addRow(Check.wild(m), BacktrackMatch.G_NONE, 0, odd), 1);
            m.compile();
            Check.due("match", m.match(0), 0);
            Check.due("guards run", m.guardLogLength(), 0);
        }
    }

    private static void twoVariables(int kind) {
        BacktrackMatch m = open();
        for (int wrong : Check.outside(BacktrackMatch.NUM_VARS)) {
            for (int x : new int[] {0, 7}) {
                Check.due("guard " + kind + " " + wrong + " " + x, m.addRow(2, kind, wrong, x), -1);
                Check.due("guard " + kind + " " + x + " " + wrong, m.addRow(2, kind, x, wrong), -1);
            }
            Check.due("guard " + kind + " twice " + wrong, m.addRow(2, kind, wrong, wrong), -1);
        }
        Check.same("what is left after the refusals", m, open());
        for (int x = 0; x < 8; x++) {
            for (int y = 0; y < 8; y++) {
                Check.due("guard " + kind + " " + x + " " + y, open().addRow(2, kind, x, y), 1);
            }
        }
    }

    private static void oneVariable(int kind) {
        BacktrackMatch m = open();
        for (int wrong : Check.outside(BacktrackMatch.NUM_VARS)) {
            for (int g2 = 0; g2 < 4; g2++) {
                Check.due("guard " + kind + " " + wrong + " " + g2, m.addRow(2, kind, wrong, g2), -1);
            }
        }
        Check.same("what is left after the refusals", m, open());
        for (int x = 0; x < 8; x++) {
            Check.due("guard " + kind + " " + x + " 3", open().addRow(2, kind, x, 3), 1);
        }
    }

    private static void constructorsOfHead() {
        BacktrackMatch m = open();
        for (int c : Check.outside(4)) {
            Check.due("head 0 " + c, m.addRow(2, BacktrackMatch.G_HEAD, 0, c), -1);
        }
        for (int c = 4; c <= 8; c++) {
            Check.due("head 7 " + c, m.addRow(2, BacktrackMatch.G_HEAD, 7, c), -1);
        }
        Check.same("what is left after the refusals", m, open());
        for (int c = 0; c < 4; c++) {
            Check.due("head 7 " + c, open().addRow(2, BacktrackMatch.G_HEAD, 7, c), 1);
        }
        BacktrackMatch none = new BacktrackMatch(8, 8, 8);
        Check.wild(none);
        for (int c : Check.outside(0)) {
            Check.due("head 0 " + c + " without constructors", none.addRow(0, BacktrackMatch.G_HEAD, 0, c), -1);
        }
        Check.due("low 0 0 without constructors", none.addRow(0, BacktrackMatch.G_LOW, 0, 0), 0);
    }

    private static void boundsOfLow() {
        for (int k : Check.outside(0)) {
            Check.due("low 0 " + k, open().addRow(2, BacktrackMatch.G_LOW, 0, k), 1);
            Check.due("low 7 " + k, open().addRow(2, BacktrackMatch.G_LOW, 7, k), 1);
        }
    }

    private static BacktrackMatch fullAndCompiled() {
        BacktrackMatch m = full(3);
        m.compile();
        return m;
    }

    /** All refusals answer -1 alike; what must not happen is that a later test is made on what an earlier one ruled out. */
    private static void severalReasons() {
        BacktrackMatch m = fullAndCompiled();
        BacktrackMatch full = full(3);
        BacktrackMatch open = open();
        for (int wrong : Check.outside(9)) {
            for (int kind : new int[] {wrong, 0, 1, 2, 3, 4}) {
                Check.due("compiled, full and kind " + kind + " of " + wrong, m.addRow(wrong, kind, wrong, wrong), -1);
                Check.due("full and kind " + kind + " of " + wrong, full.addRow(wrong, kind, wrong, wrong), -1);
                Check.due("kind " + kind + " of " + wrong, open.addRow(wrong, kind, wrong, wrong), -1);
                Check.due("kind " + kind + " of a used one", open.addRow(0, kind, wrong, wrong), -1);
            }
        }
        Check.same("what is left of the full and compiled one", m, fullAndCompiled());
        Check.same("what is left of the full one", full, full(3));
        Check.same("what is left of the open one", open, open());
    }

    private static void patternGetsUsed() {
        for (int kind = BacktrackMatch.G_NONE; kind <= BacktrackMatch.G_LOW; kind++) {
            BacktrackMatch m = open();
            Check.due("row of 2, guard kind " + kind, m.addRow(2, kind, 0, 0), 1);
            Check.due("row of 2 again", m.addRow(2, kind, 0, 0), -1);
            Check.due("as of 2", Check.as(m, 0, 2), -1);
            Check.due("arity 1 of 2", Check.cons(m, 1, 2, 0), -1);
            Check.due("or of 2 and 3", Check.or(m, 2, 3), -1);
            Check.due("row of 3", m.addRow(3, kind, 0, 0), 2);
        }
    }

    private static void indexesCountUp() {
        BacktrackMatch m = Check.declared();
        for (int r = 0; r < 8; r++) {
            Check.due("row " + r, Check.plainRow(m, Check.wild(m)), r);
            Check.due("rows", m.count(BacktrackMatch.COUNT_ROWS), r + 1);
        }
    }

    /** Eight rows with eight guards, of which only the last holds for C(A, D). */
    private static void rowsKeepTheirGuards() {
        BacktrackMatch m = Check.stocked();
        int[][] guards = {
            {BacktrackMatch.G_SAME, 0, 7}, {BacktrackMatch.G_DIFF, 7, 7}, {BacktrackMatch.G_HEAD, 7, 0}, {BacktrackMatch.G_LOW, 7, 0},
            {BacktrackMatch.G_SAME, 7, 0}, {BacktrackMatch.G_HEAD, 0, 3}, {BacktrackMatch.G_DIFF, 1, 0}, {BacktrackMatch.G_DIFF, 0, 7},
        };
        for (int[] guard : guards) {
            m.addRow(Check.cons(m, 2, Check.var(m, 0), Check.var(m, 7)), guard[0], guard[1], guard[2]);
        }
        m.compile();
        Check.due("C(A, D)", m.match(3), 7);
        Check.due("guards run", m.guardLogLength(), 8);
        Check.due("C(A, A)", m.match(5), 0);
        Check.due("C(B(A), C(A, D))", m.match(4), 7);
        for (int t = 0; t < 3; t++) {
            Check.due("match(" + t + ")", m.match(t), BacktrackMatch.NO_MATCH);
        }
        for (int x = 0; x < 8; x++) {
            dueGuardsOf(x, (x + 3) % 8);
        }
    }

    /** Only x and y are bound, to A and D, so that a guard on any other variable would fail. */
    private static void dueGuardsOf(int x, int y) {
        int[][] guards = {
            {BacktrackMatch.G_DIFF, x, y}, {BacktrackMatch.G_DIFF, y, x}, {BacktrackMatch.G_SAME, x, x}, {BacktrackMatch.G_SAME, y, y},
            {BacktrackMatch.G_HEAD, x, 0}, {BacktrackMatch.G_HEAD, y, 3}, {BacktrackMatch.G_LOW, x, 1}, {BacktrackMatch.G_LOW, y, 1},
        };
        for (int[] guard : guards) {
            BacktrackMatch m = Check.stocked();
            m.addRow(Check.cons(m, 2, Check.var(m, x), Check.var(m, y)), guard[0], guard[1], guard[2]);
            m.compile();
            Check.due("C(A, D) with guard " + guard[0] + " " + guard[1] + " " + guard[2], m.match(3), 0);
        }
    }

    private static void nothingElseChanges() {
        BacktrackMatch m = open();
        String before = Check.results(m);
        Check.due("row 0 before", m.rowPatternMatches(0, 5), true);
        Check.due("row of 2", m.addRow(2, BacktrackMatch.G_HEAD, 0, 3), 1);
        Check.due("the results", Check.results(m), before);
        Check.due("the counts", Check.counts(m), "counts -1 4 6 4 2 0 -1");
        Check.due("row 0 after", m.rowPatternMatches(0, 5), true);
        Check.due("as of 3, which stayed free", Check.as(m, 0, 3), 4);
    }

    private static void refusalsLeaveThePatternFree() {
        BacktrackMatch m = open();
        for (int wrong : Check.outside(8)) {
            m.addRow(2, wrong, 0, 0);
            m.addRow(2, BacktrackMatch.G_SAME, 0, wrong);
            m.addRow(2, BacktrackMatch.G_DIFF, wrong, 0);
            m.addRow(2, BacktrackMatch.G_HEAD, 0, wrong);
            m.addRow(2, BacktrackMatch.G_LOW, wrong, 0);
        }
        Check.due("rows", m.count(BacktrackMatch.COUNT_ROWS), 1);
        Check.due("row after the refusals", Check.plainRow(m, 2), 1);
        BacktrackMatch full = full(1);
        Check.plainRow(full, 2);
        Check.due("the pattern of a row too many", Check.as(full, 0, 2), 4);
    }

    private static int matchWithBound(int k, int t) {
        BacktrackMatch m = Check.stocked();
        m.addRow(Check.var(m, 0), BacktrackMatch.G_LOW, 0, k);
        m.compile();
        return m.match(t);
    }

    /** Some of these bounds become others when cut to 8 or 16 bits, or when a height is subtracted from them. */
    private static void boundsAreComparedAsInts() {
        int[] bounds = {
            1, 2, 3, 4, 64, 127, 128, 255, 256, 257, 32767, 32768, 65535, 65536, 1 << 26, 1 << 30, Integer.MAX_VALUE - 1, Integer.MAX_VALUE,
        };
        int[] heights = {1, 1, 2, 2, 3, 2};
        for (int k : bounds) {
            for (int t = 0; t < heights.length; t++) {
                int due = heights[t] <= k ? 0 : BacktrackMatch.NO_MATCH;
                Check.due("match(" + t + ") with bound " + k, matchWithBound(k, t), due);
            }
        }
        BacktrackMatch high = Check.declared();
        high.term(0, 0, 0);
        for (int t = 1; t < 64; t++) {
            high.term(1, t - 1, 0);
        }
        high.addRow(Check.var(high, 0), BacktrackMatch.G_LOW, 0, 63);
        high.addRow(Check.var(high, 0), BacktrackMatch.G_LOW, 0, 64);
        high.compile();
        Check.due("height 63 with bound 63", high.match(62), 0);
        Check.due("height 64 with bounds 63 and 64", high.match(63), 1);
    }

    private static void boundsBelowOne() {
        int[] bounds = {
            0, -1, -2, -64, -128, -129, -255, -256, -32768, -32769, -65535, -65536, -(1 << 26),
            Integer.MIN_VALUE + 64, Integer.MIN_VALUE + 3, Integer.MIN_VALUE + 1, Integer.MIN_VALUE,
        };
        for (int k : bounds) {
            for (int t = 0; t < 6; t++) {
                Check.due("match(" + t + ") with bound " + k, matchWithBound(k, t), BacktrackMatch.NO_MATCH);
            }
        }
    }
}
