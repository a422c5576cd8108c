/** Promise 11: binding tells the term of each variable, and -1 for unbound and for what is no variable. */
public final class Promise11BindingTest {
    public static void main(String[] args) {
        everyVariable();
        wrongVariables();
        afterRefusedMatchAndReset();
        Check.end();
    }

    private static void everyVariable() {
        for (int x = 0; x < BacktrackMatch.NUM_VARS; x++) {
            BacktrackMatch m = Check.stocked();
            Check.plainRow(m, Check.cons(m, 2, Check.wild(m), Check.var(m, x)));
            m.compile();
            m.match(4);
            for (int y = 0; y < BacktrackMatch.NUM_VARS; y++) {
                Check.due("binding(" + y + ") where " + x + " is bound", m.binding(y), y == x ? 3 : -1);
            }
        }
    }

    private static void wrongVariables() {
        BacktrackMatch m = Check.stocked();
        int all = Check.wild(m);
        for (int x = 0; x < BacktrackMatch.NUM_VARS; x++) {
            all = Check.as(m, x, all);
        }
        Check.plainRow(m, all);
        m.compile();
        m.match(5);
        String before = Check.picture(m);
        for (int x : Check.OUTSIDE_INTS) {
            Check.due("binding(" + x + ")", m.binding(x), -1);
        }
        Check.due("binding(8)", m.binding(8), -1);
        Check.due("binding(7)", m.binding(7), 5);
        Check.due("the picture after that", Check.picture(m), before);
    }

    private static void afterRefusedMatchAndReset() {
        BacktrackMatch m = Check.stocked();
        Check.plainRow(m, Check.cons(m, 1, Check.var(m, 0), 0));
        m.compile();
        m.match(2);
        m.match(1000);
        Check.due("binding(0) after a refused match", m.binding(0), 0);
        m.match(0);
        Check.due("binding(0) after no match", m.binding(0), -1);
        m.match(2);
        m.reset();
        Check.due("binding(0) after reset", m.binding(0), -1);
    }
}
