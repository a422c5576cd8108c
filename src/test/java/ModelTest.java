/** Long mixed runs of calls, right and wrong ones, on the program and on the model of the document. */
public final class ModelTest {
    private static final int RUNS = 6000;
    private static final int[] CAPACITIES = {Integer.MIN_VALUE, -1, 0, 1, 2, 5, 7, 8, 9, 12, 30, 63, 64, 65, Integer.MAX_VALUE};
    private static final int[] ODD = {-2, -1, 0, 1, 7, 8, 9, 63, 64, 65, Integer.MIN_VALUE, Integer.MAX_VALUE};

    private static long seed = 20261115L;
    private static BacktrackMatch program;
    private static Model model;
    private static int selected = 0;

    public static void main(String[] args) {
        for (int run = 0; run < RUNS; run++) {
            int terms = CAPACITIES[below(CAPACITIES.length)];
            int patterns = below(2) == 0 ? 64 : CAPACITIES[below(CAPACITIES.length)];
            int rows = below(2) == 0 ? 8 : CAPACITIES[below(CAPACITIES.length)];
            program = new BacktrackMatch(terms, patterns, rows);
            model = new Model(terms, patterns, rows);
            oneRun("run " + run + " (" + terms + ", " + patterns + ", " + rows + ")");
        }
        System.out.println(selected + " matches selected a row");
        Check.due("enough matches select a row", selected > RUNS, true);
        Check.end();
    }

    /** A sequence that is the same every time: the test must not depend on a random source. */
    private static int below(int bound) {
        seed = seed * 6364136223846793005L + 1442695040888963407L;
        return (int) ((seed >>> 33) % bound);
    }

    /** Mostly a number that means something, now and then an odd one. */
    private static int number(int size) {
        return size < 1 || below(25) == 0 ? ODD[below(ODD.length)] : below(size);
    }

    /** The newest ids come more often, so that trees and terms grow. */
    private static int recent(int size) {
        return below(3) != 0 && size > 4 ? size - 1 - below(4) : number(size);
    }

    private static void oneRun(String run) {
        for (int n = 1 + below(9); n > 0; n--) {
            defCons(run);
        }
        for (int round = 1 + below(3); round > 0; round--) {
            for (int n = below(40); n > 0; n--) {
                term(run);
            }
            for (int n = below(70); n > 0; n--) {
                build(run);
            }
            for (int n = below(12); n > 0; n--) {
                addRow(run);
            }
            Check.due(run + " compile()", program.compile(), model.compile());
            for (int n = below(40); n > 0; n--) {
                use(run);
            }
            if (below(3) != 0) {
                program.reset();
                model.reset();
                compare(run + " reset()");
            }
        }
    }

    private static void defCons(String run) {
        int arity = number(3);
        Check.due(run + " defCons(" + arity + ")", program.defCons(arity), model.defCons(arity));
    }

    private static void term(String run) {
        int c = number(model.count(0));
        int t0 = number(model.count(1));
        int t1 = number(model.count(1));
        Check.due(run + " term(" + c + ", " + t0 + ", " + t1 + ")", program.term(c, t0, t1), model.term(c, t0, t1));
    }

    private static void build(String run) {
        int kind = number(4);
        int size = model.count(2);
        int a = kind == BacktrackMatch.P_AS ? number(8) : kind == BacktrackMatch.P_CONS ? number(model.count(0)) : recent(size);
        int b = recent(size);
        int c = recent(size);
        Check.due(run + " pat(" + kind + ", " + a + ", " + b + ", " + c + ")", program.pat(kind, a, b, c), model.pat(kind, a, b, c));
    }

    private static void addRow(String run) {
        int p = recent(model.count(2));
        int kind = number(5);
        int g1 = number(8);
        int g2 = kind == BacktrackMatch.G_LOW ? number(5) : kind == BacktrackMatch.G_HEAD ? number(model.count(0)) : number(8);
        Check.due(run + " addRow(" + p + ", " + kind + ", " + g1 + ", " + g2 + ")",
            program.addRow(p, kind, g1, g2), model.addRow(p, kind, g1, g2));
    }

    private static void use(String run) {
        int t = number(model.count(1));
        int due = model.match(t);
        if (due >= 0) {
            selected++;
        }
        boolean inOrder = below(2) == 0;
        Check.due(run + " match of " + t, inOrder ? program.matchInOrder(t) : program.match(t), due);
        compare(run + " match of " + t);
        int other = below(12);
        if (other == 0) {
            term(run);
        } else if (other == 1) {
            build(run);
        } else if (other == 2) {
            addRow(run);
        } else if (other == 3) {
            defCons(run);
        } else if (other == 4) {
            Check.due(run + " compile()", program.compile(), model.compile());
        }
        compare(run + " a call after the match of " + t);
    }

    private static void compare(String when) {
        Check.due(when + ": lastRow()", program.lastRow(), model.lastRow());
        for (int x = -1; x <= 8; x++) {
            Check.due(when + ": binding(" + x + ")", program.binding(x), model.binding(x));
        }
        Check.due(when + ": guardLogLength()", program.guardLogLength(), model.guardLogLength());
        for (int i = -1; i <= 8; i++) {
            Check.due(when + ": guardLogAt(" + i + ")", program.guardLogAt(i), model.guardLogAt(i));
        }
        for (int what = -1; what <= 5; what++) {
            Check.due(when + ": count(" + what + ")", program.count(what), model.count(what));
        }
        int r = number(8);
        int t = number(model.count(1));
        Check.due(when + ": rowPatternMatches(" + r + ", " + t + ")", program.rowPatternMatches(r, t), model.rowPatternMatches(r, t));
        Check.due(when + ": termHeight(" + t + ")", program.termHeight(t), model.termHeight(t));
    }
}
