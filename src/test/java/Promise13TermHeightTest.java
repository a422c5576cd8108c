/** Promise 13: termHeight is 1 for a leaf and 1 more than the highest child else. */
public final class Promise13TermHeightTest {
    public static void main(String[] args) {
        BacktrackMatch m = Check.stocked();
        int[] heights = {1, 1, 2, 2, 3, 2};
        for (int t = 0; t < heights.length; t++) {
            Check.due("termHeight(" + t + ")", m.termHeight(t), heights[t]);
        }
        Check.due("the higher child on the left", m.termHeight(m.term(2, 4, 0)), 4);
        Check.due("the higher child on the right", m.termHeight(m.term(2, 0, 4)), 4);
        Check.due("a single child", m.termHeight(m.term(1, 4, 0)), 4);
        Check.due("children alike", m.termHeight(m.term(2, 4, 4)), 4);
        String before = Check.picture(m);
        for (int t : Check.OUTSIDE_INTS) {
            Check.due("termHeight(" + t + ")", m.termHeight(t), -1);
        }
        Check.due("one term too far", m.termHeight(10), -1);
        Check.due("the last term", m.termHeight(9), 4);
        Check.due("the picture after that", Check.picture(m), before);
        m.reset();
        Check.due("after reset", m.termHeight(4), 3);
        Check.due("of a new object", new BacktrackMatch(8, 8, 1).termHeight(0), -1);
        highest();
        Check.end();
    }

    private static void highest() {
        BacktrackMatch m = Check.declared();
        int t = m.term(0, 0, 0);
        for (int height = 2; height <= 64; height++) {
            t = m.term(1, t, 0);
            Check.due("height of a chain", m.termHeight(t), height);
        }
    }
}
