/** Promise 13: termHeight is 1 for a leaf and 1 more than the highest child else. */
public final class Promise13TermHeightTest {
    public static void main(String[] args) {
        Check.sentence("HEIGHT of a term: 1 if its constructor has arity 0", Promise13TermHeightTest::leaves);
        Check.sentence("else 1 + the greatest height among its children", Promise13TermHeightTest::greatestChild);
        Check.sentence("termHeight(t) answers the HEIGHT of term t [from the lowest to the highest]", Promise13TermHeightTest::everyHeight);
        Check.sentence("or -1 if t is outside 0..termCount-1", Promise13TermHeightTest::outside);
        Check.sentence("Changes nothing.", Promise13TermHeightTest::changesNothing);
        Check.sentence("Constructors and terms stay [so the heights after reset]", Promise13TermHeightTest::afterReset);
        Check.end();
    }

    private static void leaves() {
        BacktrackMatch m = Check.stocked();
        Check.due("A", m.termHeight(0), 1);
        Check.due("D", m.termHeight(1), 1);
        int late = Check.declared().term(3, 40, 40);
        Check.due("the id of a leaf that names other children", late, 0);
        BacktrackMatch named = Check.declared();
        named.term(0, 0, 0);
        named.term(1, 0, 0);
        Check.due("a leaf that names terms", named.termHeight(named.term(3, 1, 1)), 1);
    }

    private static void greatestChild() {
        BacktrackMatch m = Check.stocked();
        int[] heights = {1, 1, 2, 2, 3, 2};
        for (int t = 0; t < heights.length; t++) {
            Check.due("termHeight(" + t + ")", m.termHeight(t), heights[t]);
        }
        Check.due("the higher child on the left", m.termHeight(m.term(2, 4, 0)), 4);
        Check.due("the higher child on the right", m.termHeight(m.term(2, 0, 4)), 4);
        Check.due("the higher child of a lower constructor", m.termHeight(m.term(2, 1, m.term(1, 2, 0))), 4);
        Check.due("the lower child of a higher constructor", m.termHeight(m.term(2, 2, 1)), 3);
        Check.due("children alike", m.termHeight(m.term(2, 4, 4)), 4);
        Check.due("a single child", m.termHeight(m.term(1, 4, 0)), 4);
        Check.due("a single child that names a higher term", m.termHeight(m.term(1, 1, 4)), 2);
    }

    private static void everyHeight() {
        BacktrackMatch m = Check.declared();
        m.term(0, 0, 0);
        for (int t = 1; t < 64; t++) {
            m.term(1 + t % 2, t - 1, 0);
        }
        for (int t = 0; t < 64; t++) {
            Check.due("the height of " + t, m.termHeight(t), t + 1);
        }
    }

    private static void outside() {
        BacktrackMatch m = Check.stocked();
        for (int t : Check.outside(6)) {
            Check.due("termHeight(" + t + ")", m.termHeight(t), -1);
        }
        BacktrackMatch empty = new BacktrackMatch(8, 8, 1);
        for (int t : Check.outside(0)) {
            Check.due("termHeight(" + t + ") without terms", empty.termHeight(t), -1);
        }
        BacktrackMatch full = Check.declared();
        Check.fillTerms(full);
        for (int t : Check.outside(64)) {
            Check.due("termHeight(" + t + ") of 64 terms", full.termHeight(t), -1);
        }
        Check.due("termHeight(63) of 64 terms", full.termHeight(63), 64);
        full.term(1, 63, 0);
        Check.due("termHeight(64) after a refused term", full.termHeight(64), -1);
    }

    private static void changesNothing() {
        BacktrackMatch m = Check.matched();
        for (int t = 0; t < 6; t++) {
            m.termHeight(t);
        }
        for (int t : Check.outside(6)) {
            m.termHeight(t);
        }
        Check.dueAsMatched(m);
        Check.same("what is left", m, Check.matched());
    }

    private static void afterReset() {
        BacktrackMatch m = Check.matched();
        m.reset();
        Check.due("C(B(A), C(A, D)) after reset", m.termHeight(4), 3);
        Check.due("one past the last after reset", m.termHeight(6), -1);
    }
}
