/** Promise 14: count tells the five counts, -1 for any other selector, and changes nothing. */
public final class Promise14CountTest {
    public static void main(String[] args) {
        BacktrackMatch m = Check.stocked();
        dueCounts("stocked", m, 4, 6, 0, 0, 0);
        Check.plainRow(m, Check.var(m, 0));
        Check.wild(m);
        dueCounts("with a row", m, 4, 6, 3, 1, 0);
        m.compile();
        dueCounts("compiled", m, 4, 6, 3, 1, 1);
        m.match(3);
        m.term(1, 5, 0);
        dueCounts("with one term more", m, 4, 7, 3, 1, 1);
        String before = Check.picture(m);
        for (int what : Check.OUTSIDE_INTS) {
            Check.due("count(" + what + ")", m.count(what), -1);
        }
        Check.due("count(5)", m.count(5), -1);
        Check.due("the picture after that", Check.picture(m), before);
        m.reset();
        dueCounts("after reset", m, 4, 7, 0, 0, 0);
        Check.end();
    }

    private static void dueCounts(String when, BacktrackMatch m, int... due) {
        for (int what = 0; what < due.length; what++) {
            Check.due("count(" + what + ") " + when, m.count(what), due[what]);
        }
    }
}
