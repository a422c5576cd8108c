/** Promise 2: defCons declares up to eight constructors, as long as there is no term and no pattern. */
public final class Promise02DefConsTest {
    public static void main(String[] args) {
        Check.sentence("1. termCount > 0", Promise02DefConsTest::refusedWithATerm);
        Check.sentence("1. [..] or patternCount > 0", Promise02DefConsTest::refusedWithAPattern);
        Check.sentence("2. consCount == MAX_CONS", Promise02DefConsTest::refusedWhenFull);
        Check.sentence("3. arity outside 0..2", Promise02DefConsTest::refusedArities);
        Check.sentence("tests in order, and each refusal answers -1", Promise02DefConsTest::severalReasons);
        Check.sentence("Otherwise the constructor gets id consCount", Promise02DefConsTest::idsCountUp);
        Check.sentence("with the given arity", Promise02DefConsTest::aritiesAreKept);
        Check.sentence("consCount grows by 1, and the id is the answer. Nothing else changes.", Promise02DefConsTest::nothingElseChanges);
        Check.sentence("A refusal changes nothing.", Promise02DefConsTest::refusalsChangeNothing);
        Check.sentence("Since reset() keeps terms, once a term exists every later defCons is refused.",
            Promise02DefConsTest::refusedForEverWithATerm);
        Check.sentence("Otherwise [there is no other reason to refuse]", Promise02DefConsTest::refusedCallsAndCompileForbidNothing);
        Check.end();
    }

    private static void dueAllRefused(String when, BacktrackMatch m) {
        for (int arity = 0; arity <= 2; arity++) {
            Check.due("defCons(" + arity + ") " + when, m.defCons(arity), -1);
        }
        for (int arity : Check.outside(3)) {
            Check.due("defCons(" + arity + ") " + when, m.defCons(arity), -1);
        }
    }

    private static BacktrackMatch withATerm() {
        BacktrackMatch m = Check.declared();
        m.term(0, 0, 0);
        return m;
    }

    private static void refusedWithATerm() {
        BacktrackMatch m = withATerm();
        dueAllRefused("with one term", m);
        Check.same("what is left after the refusals", m, withATerm());
    }

    private static BacktrackMatch withAPattern() {
        BacktrackMatch m = Check.declared();
        Check.wild(m);
        return m;
    }

    private static void refusedWithAPattern() {
        BacktrackMatch m = withAPattern();
        dueAllRefused("with one pattern", m);
        Check.same("what is left after the refusals", m, withAPattern());
        m = withAPattern();
        m.reset();
        Check.due("defCons once reset has removed the pattern", m.defCons(1), 4);
    }

    private static BacktrackMatch withEight() {
        BacktrackMatch m = Check.declared();
        for (int arity : new int[] {2, 1, 0, 2}) {
            m.defCons(arity);
        }
        return m;
    }

    private static void refusedWhenFull() {
        BacktrackMatch m = withEight();
        Check.due("constructors", m.count(BacktrackMatch.COUNT_CONS), 8);
        dueAllRefused("with eight constructors", m);
        Check.same("what is left after the refusals", m, withEight());
    }

    private static void refusedArities() {
        BacktrackMatch m = Check.declared();
        for (int arity : Check.outside(3)) {
            Check.due("defCons(" + arity + ")", m.defCons(arity), -1);
        }
        Check.same("what is left after the refusals", m, Check.declared());
        BacktrackMatch fresh = new BacktrackMatch(64, 64, 8);
        for (int arity : Check.outside(3)) {
            Check.due("defCons(" + arity + ") on a new object", fresh.defCons(arity), -1);
        }
        Check.due("the first constructor after the refusals", fresh.defCons(2), 0);
    }

    private static BacktrackMatch withEverything() {
        BacktrackMatch m = withEight();
        m.term(0, 0, 0);
        Check.wild(m);
        return m;
    }

    private static void severalReasons() {
        BacktrackMatch m = withEverything();
        dueAllRefused("with a term, a pattern and eight constructors", m);
        Check.same("what is left after the refusals", m, withEverything());
    }

    private static void idsCountUp() {
        BacktrackMatch m = new BacktrackMatch(64, 64, 8);
        for (int c = 0; c < BacktrackMatch.MAX_CONS; c++) {
            Check.due("defCons number " + c, m.defCons(c % 3), c);
            Check.due("constructors", m.count(BacktrackMatch.COUNT_CONS), c + 1);
        }
    }

    /** Every arity at every one of the eight places, seen in which children term reads. */
    private static void aritiesAreKept() {
        for (int shift = 0; shift < 3; shift++) {
            BacktrackMatch m = new BacktrackMatch(64, 64, 8);
            for (int c = 0; c < 8; c++) {
                m.defCons((c + shift) % 3);
            }
            int leaf = (3 - shift) % 3;
            Check.due("the leaf", m.term(leaf, -1, -1), 0);
            for (int c = 0; c < 8; c++) {
                int arity = (c + shift) % 3;
                String what = "constructor " + c + " of arity " + arity;
                Check.due(what + " reads child 0", m.term(c, -1, 0) == -1, arity >= 1);
                Check.due(what + " reads child 1", m.term(c, 0, -1) == -1, arity == 2);
                Check.due(what + " with both", m.term(c, 0, 0) == -1, false);
            }
        }
    }

    private static void nothingElseChanges() {
        BacktrackMatch m = new BacktrackMatch(64, 64, 8);
        m.compile();
        for (int c = 0; c < 8; c++) {
            String before = Check.results(m) + Check.termsAndRows(m);
            Check.due("defCons", m.defCons(2 - c % 3), c);
            Check.due("the results, terms and rows", Check.results(m) + Check.termsAndRows(m), before);
            Check.due("the counts", Check.counts(m), "counts -1 " + (c + 1) + " 0 0 0 1 -1");
        }
    }

    private static BacktrackMatch withSeven() {
        BacktrackMatch m = Check.declared();
        for (int arity : new int[] {2, 1, 0}) {
            m.defCons(arity);
        }
        return m;
    }

    private static void refusalsChangeNothing() {
        BacktrackMatch m = withSeven();
        for (int arity : Check.outside(3)) {
            m.defCons(arity);
        }
        Check.due("the counts", Check.counts(m), "counts -1 7 0 0 0 0 -1");
        Check.same("what is left after the refusals", m, withSeven());
        m = withSeven();
        Check.wild(m);
        m.defCons(2);
        m.reset();
        Check.due("the eighth constructor", m.defCons(1), 7);
        m.defCons(0);
        m.term(0, 0, 0);
        m.defCons(0);
        Check.due("the eighth constructor has arity 1", m.term(7, 0, -1), 1);
        Check.due("and reads its child", m.term(7, -1, 0), -1);
    }

    private static void refusedForEverWithATerm() {
        BacktrackMatch m = withATerm();
        m.reset();
        dueAllRefused("after reset", m);
        m.reset();
        m.compile();
        dueAllRefused("after compile", m);
        m.match(0);
        m.reset();
        m.reset();
        dueAllRefused("after reset twice", m);
        Check.due("constructors", m.count(BacktrackMatch.COUNT_CONS), 4);
    }

    private static void refusedCallsAndCompileForbidNothing() {
        BacktrackMatch m = Check.declared();
        m.term(9, 0, 0);
        m.term(1, 0, 0);
        m.pat(9, 0, 0, 0);
        Check.as(m, 0, 0);
        Check.due("defCons after a refused term and pattern", m.defCons(0), 4);
        m.compile();
        Check.due("defCons after compile", m.defCons(0), 5);
        Check.due("compiled", m.count(BacktrackMatch.COUNT_COMPILED), 1);
        m.match(0);
        m.reset();
        Check.due("defCons after reset", m.defCons(0), 6);
    }
}
