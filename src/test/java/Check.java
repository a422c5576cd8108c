import java.util.Arrays;

/** What the tests of the project share: comparing answers, small builders and pictures of all that can be told of an object. */
final class Check {
    /** Ints that are no id, variable, row, kind or selector in any state. */
    private static final int[] OUTSIDE = {
        Integer.MIN_VALUE, Integer.MIN_VALUE + 1, -65536, -256, -64, -8, -2, -1,
        64, 65, 256, 1000, 4096, 65536, 1 << 26, 1 << 29, Integer.MAX_VALUE - 1, Integer.MAX_VALUE,
    };
    /** Added to a number, they don't change it for one who cuts it to 8 or 16 bits or multiplies it by 8 or 64. */
    private static final int[] UNSEEN = {256, -256, 65536, -65536, 1 << 26, -(1 << 26), 1 << 29, Integer.MIN_VALUE};

    /** Far above what any test needs, the longest taking some seconds. */
    private static final long LONGEST_MILLIS = 300_000;

    private static int wrong = 0;
    private static String sentence = "";

    private Check() {
    }

    /** Ints outside 0..size-1: both extremes, the neighbours of both ends, and some that could be taken for size-1. */
    static int[] outside(int size) {
        int[] ints = Arrays.copyOf(OUTSIDE, OUTSIDE.length + UNSEEN.length + 2);
        ints[OUTSIDE.length] = size;
        ints[OUTSIDE.length + 1] = size + 1;
        for (int i = 0; i < UNSEEN.length; i++) {
            ints[OUTSIDE.length + 2 + i] = size - 1 + UNSEEN[i];
        }
        return ints;
    }

    /** The test of one sentence of the document. A call that throws or does not end is as wrong as a wrong answer. */
    static void sentence(String words, Runnable test) {
        sentence = "\"" + words + "\": ";
        Thread runner = new Thread(() -> runAndCatch(test));
        runner.setDaemon(true);
        runner.start();
        try {
            runner.join(LONGEST_MILLIS);
        } catch (InterruptedException stopped) {
            System.exit(1);
        }
        if (runner.isAlive()) {
            System.out.println(sentence + "a call does not end");
            System.exit(1);
        }
        sentence = "";
    }

    private static void runAndCatch(Runnable test) {
        try {
            test.run();
        } catch (RuntimeException | StackOverflowError thrown) {
            wrong++;
            System.out.println(sentence + "a call threw " + thrown);
        }
    }

    static void due(String what, int got, int want) {
        due(what, String.valueOf(got), String.valueOf(want));
    }

    static void due(String what, boolean got, boolean want) {
        due(what, String.valueOf(got), String.valueOf(want));
    }

    static void due(String what, String got, String want) {
        if (!got.equals(want)) {
            wrong++;
            System.out.println(sentence + what + " answered " + got + ", due is " + want);
        }
    }

    /** Two objects that no run of calls should tell apart. It uses both of them up. */
    static void same(String what, BacktrackMatch got, BacktrackMatch want) {
        due(what, usedUp(got), usedUp(want));
    }

    /** Ends the test: exit code 1 if any answer was not the one that is due. */
    static void end() {
        if (wrong != 0) {
            System.out.println(wrong + " answers are not as due");
            System.exit(1);
        }
        System.out.println("all answers are as due");
    }

    /** The results alone: last row, bindings and guard log, with a look past both ends of each. */
    static String results(BacktrackMatch m) {
        StringBuilder picture = new StringBuilder("row " + m.lastRow() + " bindings");
        for (int x = -2; x <= BacktrackMatch.NUM_VARS + 1; x++) {
            picture.append(' ').append(m.binding(x));
        }
        picture.append(" log ").append(m.guardLogLength()).append(':');
        for (int i = -2; i <= 9; i++) {
            picture.append(' ').append(m.guardLogAt(i));
        }
        return picture.toString();
    }

    /** The results due when nothing was selected and no guard was run. */
    static String noResults() {
        return "row -1 bindings" + " -1".repeat(12) + " log 0:" + " -1".repeat(12);
    }

    static String counts(BacktrackMatch m) {
        StringBuilder picture = new StringBuilder("counts");
        for (int what = -1; what <= 5; what++) {
            picture.append(' ').append(m.count(what));
        }
        return picture.toString();
    }

    /** What the public methods show of terms and rows without changing anything. */
    static String termsAndRows(BacktrackMatch m) {
        StringBuilder picture = new StringBuilder("heights");
        for (int t = -1; t <= 65; t++) {
            picture.append(' ').append(m.termHeight(t));
        }
        picture.append(" fits ");
        for (int r = -1; r <= 9; r++) {
            for (int t = -1; t <= 65; t++) {
                picture.append(m.rowPatternMatches(r, t) ? '1' : '0');
            }
        }
        return picture.toString();
    }

    /** All that the public methods show without changing anything. */
    static String picture(BacktrackMatch m) {
        return results(m) + " " + counts(m) + " " + termsAndRows(m);
    }

    /**
     * All that can be told of an object by using it up: the arities, the children of the terms, the used flags,
     * the guards and the capacities show in no picture, but in the answers of later calls.
     */
    private static String usedUp(BacktrackMatch m) {
        StringBuilder told = new StringBuilder(picture(m)).append(" next");
        tellTerms(m, told);
        tellPatterns(m, told);
        told.append(' ').append(m.compile());
        tellMatches(m, told);
        m.reset();
        told.append(" constructors left");
        for (int n = 0; n < 9; n++) {
            told.append(' ').append(m.defCons(n % 3));
        }
        told.append(" room for ").append(room(m));
        return told.append(' ').append(picture(m)).toString();
    }

    private static void tellTerms(BacktrackMatch m, StringBuilder told) {
        int last = m.count(BacktrackMatch.COUNT_TERMS) - 1;
        for (int c = 0; c < BacktrackMatch.MAX_CONS; c++) {
            for (int t0 : new int[] {-1, 0, 1, 2, last}) {
                for (int t1 : new int[] {-1, 0, 1, 3, last}) {
                    told.append(' ').append(m.term(c, t0, t1));
                }
            }
        }
    }

    private static void tellPatterns(BacktrackMatch m, StringBuilder told) {
        int patterns = m.count(BacktrackMatch.COUNT_PATTERNS);
        for (int p = 0; p < patterns; p++) {
            told.append(' ').append(m.pat(BacktrackMatch.P_AS, p % BacktrackMatch.NUM_VARS, p, 0));
        }
        patterns = m.count(BacktrackMatch.COUNT_PATTERNS);
        for (int p = 0; p < patterns; p++) {
            told.append(' ').append(m.addRow(p, BacktrackMatch.G_DIFF, 0, 0));
        }
    }

    private static void tellMatches(BacktrackMatch m, StringBuilder told) {
        for (int t = 0; t < m.count(BacktrackMatch.COUNT_TERMS); t++) {
            told.append(' ').append(m.match(t)).append(' ').append(results(m));
            told.append(' ').append(m.matchInOrder(t)).append(' ').append(results(m));
        }
        told.append(' ').append(picture(m));
    }

    /** The counts of terms, patterns and rows when no more go in; patterns and rows are dropped again. */
    static String room(BacktrackMatch m) {
        int terms = fillTerms(m);
        m.reset();
        int patterns = fillPatterns(m);
        m.reset();
        int rows = fillRows(m);
        m.reset();
        return terms + " " + patterns + " " + rows;
    }

    /** Builds terms until no more go in; with no constructor of arity 1 as number 1 there are few. */
    static int fillTerms(BacktrackMatch m) {
        m.defCons(0);
        m.defCons(1);
        m.term(0, 0, 0);
        for (int t = 0; t < 100; t++) {
            m.term(1, t, 0);
        }
        return m.count(BacktrackMatch.COUNT_TERMS);
    }

    static int fillPatterns(BacktrackMatch m) {
        for (int tries = 0; tries < 100; tries++) {
            wild(m);
        }
        return m.count(BacktrackMatch.COUNT_PATTERNS);
    }

    static int fillRows(BacktrackMatch m) {
        for (int tries = 0; tries < 15; tries++) {
            plainRow(m, wild(m));
        }
        return m.count(BacktrackMatch.COUNT_ROWS);
    }

    static int wild(BacktrackMatch m) {
        return m.pat(BacktrackMatch.P_WILD, 0, 0, 0);
    }

    static int as(BacktrackMatch m, int x, int q) {
        return m.pat(BacktrackMatch.P_AS, x, q, 0);
    }

    /** A variable alone: x bound to whatever stands there. */
    static int var(BacktrackMatch m, int x) {
        return as(m, x, wild(m));
    }

    static int cons(BacktrackMatch m, int c, int q0, int q1) {
        return m.pat(BacktrackMatch.P_CONS, c, q0, q1);
    }

    /** A constructor of arity 0. */
    static int leaf(BacktrackMatch m, int c) {
        return cons(m, c, -1, -1);
    }

    static int or(BacktrackMatch m, int q, int r) {
        return m.pat(BacktrackMatch.P_OR, q, r, 0);
    }

    static int plainRow(BacktrackMatch m, int p) {
        return m.addRow(p, BacktrackMatch.G_NONE, 0, 0);
    }

    /** A row whose guard fails for every term. */
    static int failingRow(BacktrackMatch m, int p) {
        return m.addRow(p, BacktrackMatch.G_DIFF, 0, 0);
    }

    /** Constructors 0 = A (arity 0), 1 = B (arity 1), 2 = C (arity 2) and 3 = D (arity 0), no term and no pattern yet. */
    static BacktrackMatch declared() {
        return declared(64, 64, 8);
    }

    static BacktrackMatch declared(int termCapacity, int patternCapacity, int rowCapacity) {
        BacktrackMatch m = new BacktrackMatch(termCapacity, patternCapacity, rowCapacity);
        m.defCons(0);
        m.defCons(1);
        m.defCons(2);
        m.defCons(0);
        return m;
    }

    /** The constructors of declared() with the terms 0 = A, 1 = D, 2 = B(A), 3 = C(A, D), 4 = C(B(A), C(A, D)), 5 = C(A, A). */
    static BacktrackMatch stocked() {
        return stocked(64, 64, 8);
    }

    static BacktrackMatch stocked(int termCapacity, int patternCapacity, int rowCapacity) {
        BacktrackMatch m = declared(termCapacity, patternCapacity, rowCapacity);
        m.term(0, 0, 0);
        m.term(3, 0, 0);
        m.term(1, 0, 0);
        m.term(2, 0, 1);
        m.term(2, 2, 3);
        m.term(2, 0, 0);
        return m;
    }

    /** Stocked, compiled with rows C(x0, x1) if x0 = x1, B(x2), x3 if its height is 2 at most; C(A, D) was matched last. */
    static BacktrackMatch matched() {
        BacktrackMatch m = stocked();
        m.addRow(cons(m, 2, var(m, 0), var(m, 1)), BacktrackMatch.G_SAME, 0, 1);
        plainRow(m, cons(m, 1, var(m, 2), 0));
        m.addRow(var(m, 3), BacktrackMatch.G_LOW, 3, 2);
        wild(m);
        m.compile();
        m.match(3);
        return m;
    }

    /**
     * All that can be read of matched(), as it is due. Whoever reads it a second time also sees what the reading
     * itself has changed, which two objects that were read alike would not show.
     */
    static void dueAsMatched(BacktrackMatch m) {
        for (int round = 0; round < 2; round++) {
            due("the results", results(m), "row 2 bindings -1 -1 -1 -1 -1 3 -1 -1 -1 -1 -1 -1 log 2: -1 -1 0 2" + " -1".repeat(8));
            due("the counts", counts(m), "counts -1 4 6 11 3 1 -1");
            String fits = "0".repeat(67) + "0000111" + "0".repeat(60) + "0001" + "0".repeat(63) + "0111111" + "0".repeat(60);
            due("terms and rows", termsAndRows(m), "heights -1 1 1 2 2 3 2" + " -1".repeat(60) + " fits " + fits + "0".repeat(7 * 67));
        }
    }
}
