/** Promise 2: defCons declares up to eight constructors, as long as there is no term and no pattern. */
public final class Promise02DefConsTest {
    public static void main(String[] args) {
        idsCountUp();
        wrongAritiesAreRefused();
        termsForbidIt();
        patternsForbidItUntilReset();
        allowedAfterCompile();
        aritiesAreKept();
        Check.end();
    }

    private static void idsCountUp() {
        BacktrackMatch m = new BacktrackMatch(64, 64, 8);
        for (int c = 0; c < BacktrackMatch.MAX_CONS; c++) {
            Check.due("defCons number " + c, m.defCons(c % 3), c);
            Check.due("constructors", m.count(BacktrackMatch.COUNT_CONS), c + 1);
        }
        for (int arity = -1; arity <= 3; arity++) {
            Check.due("the ninth defCons(" + arity + ")", m.defCons(arity), -1);
        }
        Check.due("constructors at the end", m.count(BacktrackMatch.COUNT_CONS), 8);
    }

    private static void wrongAritiesAreRefused() {
        BacktrackMatch m = new BacktrackMatch(64, 64, 8);
        String before = Check.picture(m);
        for (int arity : new int[] {-1, 3, 4, 8, Integer.MIN_VALUE, Integer.MAX_VALUE}) {
            Check.due("defCons(" + arity + ")", m.defCons(arity), -1);
        }
        Check.due("the picture after refusals", Check.picture(m), before);
        Check.due("defCons(2) after refusals", m.defCons(2), 0);
    }

    private static void termsForbidIt() {
        BacktrackMatch m = Check.declared();
        m.term(0, 0, 0);
        String before = Check.picture(m);
        Check.due("defCons with a term", m.defCons(0), -1);
        Check.due("the picture after the refusal", Check.picture(m), before);
        m.reset();
        Check.due("defCons with a term after reset", m.defCons(0), -1);
        Check.due("constructors", m.count(BacktrackMatch.COUNT_CONS), 4);
    }

    private static void patternsForbidItUntilReset() {
        BacktrackMatch m = Check.declared();
        Check.wild(m);
        Check.due("defCons with a pattern", m.defCons(1), -1);
        m.reset();
        Check.due("defCons after reset", m.defCons(1), 4);
        Check.due("constructors", m.count(BacktrackMatch.COUNT_CONS), 5);
    }

    private static void allowedAfterCompile() {
        BacktrackMatch m = new BacktrackMatch(64, 64, 8);
        m.compile();
        Check.due("defCons after compile", m.defCons(1), 0);
        Check.due("compiled", m.count(BacktrackMatch.COUNT_COMPILED), 1);
    }

    private static void aritiesAreKept() {
        BacktrackMatch m = Check.declared();
        Check.due("arity 0 reads no child", m.term(0, -1, -1), 0);
        Check.due("arity 1 reads child 0", m.term(1, -1, 0), -1);
        Check.due("arity 1 reads no child 1", m.term(1, 0, -1), 1);
        Check.due("arity 2 reads child 0", m.term(2, -1, 0), -1);
        Check.due("arity 2 reads child 1", m.term(2, 0, -1), -1);
        Check.due("arity 2 with both", m.term(2, 0, 1), 2);
    }
}
