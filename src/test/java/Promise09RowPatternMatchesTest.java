/** Promise 9: rowPatternMatches looks at the pattern alone, in every phase, and changes nothing. */
public final class Promise09RowPatternMatchesTest {
    public static void main(String[] args) {
        BacktrackMatch m = Check.stocked();
        Check.due("without rows", m.rowPatternMatches(0, 0), false);
        Check.plainRow(m, Check.wild(m));
        Check.plainRow(m, Check.cons(m, 0, 0, 0));
        m.addRow(Check.cons(m, 2, Check.cons(m, 0, 0, 0), Check.wild(m)), BacktrackMatch.G_SAME, 0, 1);
        Check.plainRow(m, Check.cons(m, 2, Check.wild(m), Check.cons(m, 3, 0, 0)));
        Check.plainRow(m, Check.or(m, Check.cons(m, 3, 0, 0), Check.cons(m, 1, Check.wild(m), 0)));
        Check.plainRow(m, Check.as(m, 0, Check.cons(m, 1, Check.cons(m, 3, 0, 0), 0)));
        String[] due = {"111111", "100000", "000101", "000100", "011000", "000000"};
        dueFits("before compile", m, due);
        m.compile();
        dueFits("after compile", m, due);
        m.match(3);
        String before = Check.picture(m);
        dueFits("after a match", m, due);
        wrongArguments(m);
        Check.due("the picture after all that", Check.picture(m), before);
        termBuiltLater(m);
        m.reset();
        Check.due("after reset", m.rowPatternMatches(0, 0), false);
        Check.end();
    }

    private static void dueFits(String when, BacktrackMatch m, String[] due) {
        for (int r = 0; r < due.length; r++) {
            for (int t = 0; t < due[r].length(); t++) {
                Check.due("rowPatternMatches(" + r + ", " + t + ") " + when, m.rowPatternMatches(r, t), due[r].charAt(t) == '1');
            }
        }
    }

    private static void wrongArguments(BacktrackMatch m) {
        for (int wrong : Check.OUTSIDE_INTS) {
            Check.due("row " + wrong, m.rowPatternMatches(wrong, 0), false);
            Check.due("term " + wrong, m.rowPatternMatches(0, wrong), false);
            Check.due("row and term " + wrong, m.rowPatternMatches(wrong, wrong), false);
        }
        Check.due("one row too far", m.rowPatternMatches(6, 0), false);
        Check.due("one term too far", m.rowPatternMatches(0, 6), false);
    }

    private static void termBuiltLater(BacktrackMatch m) {
        int later = m.term(1, 1, 0);
        Check.due("B(D) and the wildcard", m.rowPatternMatches(0, later), true);
        Check.due("B(D) and D or B(_)", m.rowPatternMatches(4, later), true);
        Check.due("B(D) and B(D)", m.rowPatternMatches(5, later), true);
        Check.due("B(D) and A", m.rowPatternMatches(1, later), false);
    }
}
