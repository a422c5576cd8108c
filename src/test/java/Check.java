/** What the tests of the project share: comparing answers, small builders and a picture of all that can be read. */
final class Check {
    static final int[] OUTSIDE_INTS = {-1, -2, -64, 64, 1000, Integer.MIN_VALUE, Integer.MAX_VALUE};

    private static int wrong = 0;

    private Check() {
    }

    static void due(String what, int got, int want) {
        due(what, String.valueOf(got), String.valueOf(want));
    }

    static void due(String what, boolean got, boolean want) {
        due(what, String.valueOf(got), String.valueOf(want));
    }

    static void due(String what, String got, String want) {
        if (!got.equals(want)) {
            wrong++;
            System.out.println(what + " answered " + got + ", due is " + want);
        }
    }

    /** Ends the test: exit code 1 if any answer was not the one that is due. */
    static void end() {
        if (wrong != 0) {
            System.out.println(wrong + " answers are not as due");
            System.exit(1);
        }
        System.out.println("all answers are as due");
    }

    /** The results alone: last row, bindings and guard log, with a look past both ends of each. */
    static String results(BacktrackMatch m) {
        StringBuilder picture = new StringBuilder("row " + m.lastRow() + " bindings");
        for (int x = -2; x <= BacktrackMatch.NUM_VARS + 1; x++) {
            picture.append(' ').append(m.binding(x));
        }
        picture.append(" log ").append(m.guardLogLength()).append(':');
        for (int i = -2; i <= 9; i++) {
            picture.append(' ').append(m.guardLogAt(i));
        }
        return picture.toString();
    }

    /** All that the public methods show without changing anything. */
    static String picture(BacktrackMatch m) {
        StringBuilder picture = new StringBuilder(results(m)).append(" counts");
        for (int what = -1; what <= 5; what++) {
            picture.append(' ').append(m.count(what));
        }
        picture.append(" heights");
        for (int t = -1; t <= 65; t++) {
            picture.append(' ').append(m.termHeight(t));
        }
        picture.append(" fits ");
        for (int r = -1; r <= 9; r++) {
            for (int t = -1; t <= 65; t++) {
                picture.append(m.rowPatternMatches(r, t) ? '1' : '0');
            }
        }
        return picture.toString();
    }

    static int wild(BacktrackMatch m) {
        return m.pat(BacktrackMatch.P_WILD, 0, 0, 0);
    }

    static int as(BacktrackMatch m, int x, int q) {
        return m.pat(BacktrackMatch.P_AS, x, q, 0);
    }

    /** A variable alone: x bound to whatever stands there. */
    static int var(BacktrackMatch m, int x) {
        return as(m, x, wild(m));
    }

    static int cons(BacktrackMatch m, int c, int q0, int q1) {
        return m.pat(BacktrackMatch.P_CONS, c, q0, q1);
    }

    static int or(BacktrackMatch m, int q, int r) {
        return m.pat(BacktrackMatch.P_OR, q, r, 0);
    }

    static int plainRow(BacktrackMatch m, int p) {
        return m.addRow(p, BacktrackMatch.G_NONE, 0, 0);
    }

    /** Constructors 0 (arity 0), 1 (arity 1), 2 (arity 2) and 3 (arity 0), no term and no pattern yet. */
    static BacktrackMatch declared() {
        BacktrackMatch m = new BacktrackMatch(64, 64, 8);
        m.defCons(0);
        m.defCons(1);
        m.defCons(2);
        m.defCons(0);
        return m;
    }

    /** The constructors of declared() with the terms 0 = A, 1 = D, 2 = B(A), 3 = C(A, D), 4 = C(B(A), C(A, D)), 5 = C(A, A). */
    static BacktrackMatch stocked() {
        BacktrackMatch m = declared();
        m.term(0, 0, 0);
        m.term(3, 0, 0);
        m.term(1, 0, 0);
        m.term(2, 0, 1);
        m.term(2, 2, 3);
        m.term(2, 0, 0);
        return m;
    }
}
