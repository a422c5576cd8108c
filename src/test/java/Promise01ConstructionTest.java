/** Promise 1: every capacity is clamped, stays as it is, and a new object is empty. */
public final class Promise01ConstructionTest {
    private static final int[] EVERY_SORT = {
        Integer.MIN_VALUE, -1, 0, 1, 2, 7, 8, 9, 63, 64, 65, Integer.MAX_VALUE,
    };

    /** Some of both become numbers in between when they are cut to 8 or 16 bits. */
    private static final int[] TOO_SMALL = {
        Integer.MIN_VALUE, Integer.MIN_VALUE + 1, Integer.MIN_VALUE + 20, -65536 + 20, -65536, -256 + 20, -256, -64, -8, -1, 0,
    };
    private static final int[] TOO_LARGE = {
        65, 66, 128, 256, 256 + 9, 1000, 65536, 65536 + 9, 1 << 26, (1 << 26) + 9, Integer.MAX_VALUE - 1, Integer.MAX_VALUE,
    };

    public static void main(String[] args) {
        Check.sentence("a value below the least becomes the least", Promise01ConstructionTest::belowTheLeast);
        Check.sentence("a value above the greatest becomes the greatest", Promise01ConstructionTest::aboveTheGreatest);
        Check.sentence("termCapacity is clamped into 8..64", Promise01ConstructionTest::termCapacities);
        Check.sentence("patternCapacity into 8..64", Promise01ConstructionTest::patternCapacities);
        Check.sentence("rowCapacity into 1..8", Promise01ConstructionTest::rowCapacities);
        Check.sentence("Every int is accepted, including negative values and the extremes of int.",
            Promise01ConstructionTest::everySortTogether);
        Check.sentence("The capacities never change afterwards.", Promise01ConstructionTest::capacitiesStay);
        Check.sentence("At the start: consCount = 0, termCount = 0, patternCount = 0, rowCount = 0, compiled is false",
            Promise01ConstructionTest::emptyAtTheStart);
        Check.sentence("lastRow is NO_MATCH, all eight bindings are -1 and the guard log is empty",
            Promise01ConstructionTest::noResultsAtTheStart);
        Check.end();
    }

    private static void belowTheLeast() {
        for (int small : TOO_SMALL) {
            dueRoom(small, 20, 3, "8 20 3");
            dueRoom(20, small, 3, "20 8 3");
            dueRoom(20, 20, small, "20 20 1");
        }
        dueRoom(7, 20, 3, "8 20 3");
        dueRoom(20, 7, 3, "20 8 3");
    }

    private static void aboveTheGreatest() {
        for (int large : TOO_LARGE) {
            dueRoom(large, 20, 3, "64 20 3");
            dueRoom(20, large, 3, "20 64 3");
            dueRoom(20, 20, large, "20 20 8");
        }
        dueRoom(20, 20, 9, "20 20 8");
    }

    private static void termCapacities() {
        for (int capacity = 8; capacity <= 64; capacity++) {
            dueRoom(capacity, 20, 3, capacity + " 20 3");
        }
    }

    private static void patternCapacities() {
        for (int capacity = 8; capacity <= 64; capacity++) {
            dueRoom(20, capacity, 3, "20 " + capacity + " 3");
        }
    }

    private static void rowCapacities() {
        for (int capacity = 1; capacity <= 8; capacity++) {
            dueRoom(20, 20, capacity, "20 20 " + capacity);
        }
    }

    private static void everySortTogether() {
        for (int terms : EVERY_SORT) {
            for (int patterns : EVERY_SORT) {
                for (int rows : EVERY_SORT) {
                    dueRoom(terms, patterns, rows, clamp(terms, 8, 64) + " " + clamp(patterns, 8, 64) + " " + clamp(rows, 1, 8));
                }
            }
        }
    }

    private static int clamp(int value, int least, int greatest) {
        return Math.max(least, Math.min(greatest, value));
    }

    private static void dueRoom(int terms, int patterns, int rows, String due) {
        String what = "the room of new BacktrackMatch(" + terms + ", " + patterns + ", " + rows + ")";
        Check.due(what, Check.room(new BacktrackMatch(terms, patterns, rows)), due);
    }

    private static void capacitiesStay() {
        BacktrackMatch m = Check.stocked(10, 12, 3);
        Check.plainRow(m, Check.var(m, 0));
        m.compile();
        m.match(0);
        m.match(-1);
        m.reset();
        Check.due("the room after compile, match and reset", Check.room(m), "10 12 3");
        Check.due("the room when it was full before", Check.room(m), "10 12 3");
        Check.fillRows(m);
        m.compile();
        Check.due("a term too many after compile", m.term(2, 9, 9), -1);
        m.reset();
        Check.due("the room at the end", Check.room(m), "10 12 3");
    }

    private static void emptyAtTheStart() {
        for (int capacity : EVERY_SORT) {
            BacktrackMatch m = new BacktrackMatch(capacity, capacity, capacity);
            Check.due("the counts of a new object", Check.counts(m), "counts -1 0 0 0 0 0 -1");
            Check.due("match(0) of a new object", m.match(0), BacktrackMatch.REFUSED);
            Check.due("termHeight(0) of a new object", m.termHeight(0), -1);
            Check.due("rowPatternMatches(0, 0) of a new object", m.rowPatternMatches(0, 0), false);
            Check.due("compile() of a new object", m.compile(), 0);
        }
    }

    private static void noResultsAtTheStart() {
        for (int capacity : EVERY_SORT) {
            BacktrackMatch m = new BacktrackMatch(capacity, capacity, capacity);
            Check.due("lastRow() of a new object", m.lastRow(), BacktrackMatch.NO_MATCH);
            Check.due("guardLogLength() of a new object", m.guardLogLength(), 0);
            Check.due("the results of a new object", Check.results(m), Check.noResults());
        }
    }
}
