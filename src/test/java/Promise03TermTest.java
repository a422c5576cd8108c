import java.util.HashMap;
import java.util.Map;

/** Promise 3: term shares equal nodes, reads no argument past the arity and is allowed in every phase. */
public final class Promise03TermTest {
    public static void main(String[] args) {
        Check.sentence("t0 is child 0 and is only read if arity(c) >= 1", Promise03TermTest::childZeroUnread);
        Check.sentence("t1 is child 1 and is only read if arity(c) == 2", Promise03TermTest::childOneUnread);
        Check.sentence("Arguments not read are ignored, never checked nor stored.", Promise03TermTest::unreadArgumentsAreNotStored);
        Check.sentence("1. c outside 0..consCount-1: answer -1", Promise03TermTest::wrongConstructors);
        Check.sentence("2. a read child outside 0..termCount-1: answer -1", Promise03TermTest::wrongChildren);
        Check.sentence("Every child id is smaller than the node's own id.", Promise03TermTest::noTermIsItsOwnChild);
        Check.sentence("3. a node with constructor c and the same read children exists: its id is the answer and nothing changes",
            Promise03TermTest::equalTermsShareAnId);
        Check.sentence("(this holds even when the store is full)", Promise03TermTest::foundInAFullStore);
        Check.sentence("4. termCount == termCapacity: answer -1", Promise03TermTest::refusedWhenFull);
        Check.sentence("Tests in order", Promise03TermTest::severalReasons);
        Check.sentence("Otherwise the node gets id termCount, termCount grows by 1, and the answer is the id.",
            Promise03TermTest::idsCountUp);
        Check.sentence("No two nodes have the same constructor and the same children, because term() shares nodes.",
            Promise03TermTest::noTwoNodesAlike);
        Check.sentence("two terms are structurally equal exactly when their ids are equal", Promise03TermTest::differentTermsDiffer);
        Check.sentence("term is allowed in every phase, also after compile.", Promise03TermTest::everyPhase);
        Check.sentence("It never changes constructors, patterns, rows, the compiled flag or the results.",
            Promise03TermTest::changesNothingElse);
        Check.sentence("[a term built after compile is a term like any other]", Promise03TermTest::laterTermsAreMatched);
        Check.end();
    }

    private static void childZeroUnread() {
        for (int odd : Check.outside(0)) {
            BacktrackMatch m = Check.declared();
            Check.due("term(0, " + odd + ", 0)", m.term(0, odd, 0), 0);
            Check.due("term(3, " + odd + ", " + odd + ")", m.term(3, odd, odd), 1);
            Check.due("terms", m.count(BacktrackMatch.COUNT_TERMS), 2);
        }
    }

    private static void childOneUnread() {
        for (int odd : Check.outside(0)) {
            BacktrackMatch m = Check.declared();
            Check.due("term(0, 0, " + odd + ")", m.term(0, 0, odd), 0);
            Check.due("term(1, 0, " + odd + ")", m.term(1, 0, odd), 1);
            Check.due("terms", m.count(BacktrackMatch.COUNT_TERMS), 2);
        }
    }

    private static void unreadArgumentsAreNotStored() {
        BacktrackMatch m = Check.declared();
        Check.due("A", m.term(0, 17, -4), 0);
        Check.due("B(A)", m.term(1, 0, 55), 1);
        Check.due("B(B(A))", m.term(1, 1, 0), 2);
        Check.due("A with a real term behind it", m.term(0, 2, 2), 0);
        Check.due("B(A) with a real term behind it", m.term(1, 0, 2), 1);
        for (int odd : Check.outside(3)) {
            Check.due("A with " + odd, m.term(0, odd, odd), 0);
            Check.due("B(A) with " + odd, m.term(1, 0, odd), 1);
        }
        Check.due("terms", m.count(BacktrackMatch.COUNT_TERMS), 3);
        Check.due("the height of A", m.termHeight(0), 1);
        Check.due("the height of B(A)", m.termHeight(1), 2);
    }

    private static void wrongConstructors() {
        BacktrackMatch m = Check.stocked();
        for (int c : Check.outside(4)) {
            Check.due("term(" + c + ", 0, 0)", m.term(c, 0, 0), -1);
        }
        for (int c = 4; c <= 9; c++) {
            Check.due("term(" + c + ", 0, 0)", m.term(c, 0, 0), -1);
        }
        Check.same("what is left after the refusals", m, Check.stocked());
        BacktrackMatch fresh = new BacktrackMatch(8, 8, 1);
        for (int c : Check.outside(0)) {
            Check.due("term(" + c + ", 0, 0) without constructors", fresh.term(c, 0, 0), -1);
        }
        Check.same("what is left of a new object", fresh, new BacktrackMatch(8, 8, 1));
    }

    private static void wrongChildren() {
        BacktrackMatch m = Check.stocked();
        for (int child : Check.outside(6)) {
            Check.due("term(1, " + child + ", 0)", m.term(1, child, 0), -1);
            Check.due("term(2, " + child + ", 0)", m.term(2, child, 0), -1);
            Check.due("term(2, 0, " + child + ")", m.term(2, 0, child), -1);
            Check.due("term(2, " + child + ", " + child + ")", m.term(2, child, child), -1);
        }
        Check.same("what is left after the refusals", m, Check.stocked());
        BacktrackMatch empty = Check.declared();
        for (int child : Check.outside(0)) {
            Check.due("term(1, " + child + ", 0) without terms", empty.term(1, child, 0), -1);
            Check.due("term(2, " + child + ", " + child + ") without terms", empty.term(2, child, child), -1);
        }
        Check.same("what is left of an object without terms", empty, Check.declared());
    }

    private static void noTermIsItsOwnChild() {
        BacktrackMatch m = Check.stocked();
        Check.due("its own id as the only child", m.term(1, 6, 0), -1);
        Check.due("its own id as child 0", m.term(2, 6, 0), -1);
        Check.due("its own id as child 1", m.term(2, 0, 6), -1);
        Check.due("the newest term as a child", m.term(2, 5, 5), 6);
        Check.due("and the one made of it", m.term(1, 6, 0), 7);
    }

    private static void equalTermsShareAnId() {
        BacktrackMatch m = Check.stocked();
        Check.due("A again", m.term(0, 0, 0), 0);
        Check.due("D again", m.term(3, 0, 0), 1);
        Check.due("B(A) again", m.term(1, 0, 0), 2);
        Check.due("C(A, D) again", m.term(2, 0, 1), 3);
        Check.due("C(B(A), C(A, D)) again", m.term(2, 2, 3), 4);
        Check.due("C(A, A) again", m.term(2, 0, 0), 5);
        Check.same("what is left after the finds", m, Check.stocked());
    }

    /** Terms 0 = A, 1 = D, 2 = B(A), 3 = C(A, D), 4 = C(B(A), C(A, D)), 5 = C(A, A), 6 = B(D), 7 = C(D, A) and no room. */
    private static BacktrackMatch full() {
        BacktrackMatch m = Check.stocked(8, 64, 8);
        m.term(1, 1, 0);
        m.term(2, 1, 0);
        return m;
    }

    private static void foundInAFullStore() {
        BacktrackMatch m = full();
        Check.due("terms", m.count(BacktrackMatch.COUNT_TERMS), 8);
        Check.due("A", m.term(0, -1, -1), 0);
        Check.due("D", m.term(3, -1, -1), 1);
        Check.due("B(A)", m.term(1, 0, -1), 2);
        Check.due("C(A, D)", m.term(2, 0, 1), 3);
        Check.due("C(B(A), C(A, D))", m.term(2, 2, 3), 4);
        Check.due("C(A, A)", m.term(2, 0, 0), 5);
        Check.due("B(D)", m.term(1, 1, -1), 6);
        Check.due("C(D, A), the last one", m.term(2, 1, 0), 7);
        Check.same("what is left after the finds", m, full());
    }

    private static void refusedWhenFull() {
        BacktrackMatch m = full();
        Check.due("B(B(A))", m.term(1, 2, 0), -1);
        Check.due("C(D, D)", m.term(2, 1, 1), -1);
        Check.due("B(C(D, A)), its child the last one", m.term(1, 7, 0), -1);
        Check.same("what is left after the refusals", m, full());
        for (int capacity = 8; capacity <= 64; capacity++) {
            BacktrackMatch chain = Check.declared(capacity, 8, 1);
            for (int t = 1; t < capacity; t++) {
                chain.term(0, 0, 0);
                Check.due("term " + t + " of " + capacity, chain.term(1, t - 1, 0), t);
            }
            Check.due("a term too many for " + capacity, chain.term(1, capacity - 1, 0), -1);
            Check.due("a leaf too many for " + capacity, chain.term(3, 0, 0), -1);
            Check.due("terms", chain.count(BacktrackMatch.COUNT_TERMS), capacity);
        }
    }

    /** All refusals answer -1 alike; what must not happen is that a later test is made on what an earlier one ruled out. */
    private static void severalReasons() {
        BacktrackMatch m = full();
        for (int wrong : Check.outside(8)) {
            Check.due("constructor and child " + wrong, m.term(wrong, wrong, wrong), -1);
            Check.due("full and constructor " + wrong, m.term(wrong, 0, 0), -1);
            Check.due("full and the only child " + wrong, m.term(1, wrong, 0), -1);
            Check.due("full and child 0 " + wrong, m.term(2, wrong, 0), -1);
            Check.due("full and child 1 " + wrong, m.term(2, 0, wrong), -1);
        }
        Check.same("what is left after the refusals", m, full());
    }

    private static void idsCountUp() {
        BacktrackMatch m = Check.declared();
        Check.due("A", m.term(0, 0, 0), 0);
        for (int t = 1; t < 64; t++) {
            int id = t % 2 == 0 ? m.term(1, t - 1, 0) : m.term(2, t - 1, 0);
            Check.due("term " + t, id, t);
            Check.due("terms", m.count(BacktrackMatch.COUNT_TERMS), t + 1);
        }
        BacktrackMatch pairs = new BacktrackMatch(64, 64, 8);
        pairs.defCons(2);
        pairs.defCons(0);
        Check.due("a leaf", pairs.term(1, 0, 0), 0);
        Check.due("constructor 0 over term 0 twice", pairs.term(0, 0, 0), 1);
        Check.due("terms", pairs.count(BacktrackMatch.COUNT_TERMS), 2);
        Check.due("its height", pairs.termHeight(1), 2);
    }

    private static void noTwoNodesAlike() {
        BacktrackMatch m = Check.declared();
        Map<String, Integer> ids = new HashMap<>();
        for (int round = 0; round < 3; round++) {
            for (int t0 = 0; t0 < 5; t0++) {
                for (int t1 = 0; t1 < 5; t1++) {
                    dueShared(m, ids, 0, t0, t1, "A");
                    dueShared(m, ids, 3, t0, t1, "D");
                    dueShared(m, ids, 1, t0, t1, "B " + t0);
                    dueShared(m, ids, 2, t0, t1, "C " + t0 + " " + t1);
                }
            }
        }
        Check.due("terms", m.count(BacktrackMatch.COUNT_TERMS), 2 + 5 + 25);
        Check.due("terms", m.count(BacktrackMatch.COUNT_TERMS), ids.size());
    }

    /** The first answer for a node is its id, and every later one is the same. */
    private static void dueShared(BacktrackMatch m, Map<String, Integer> ids, int c, int t0, int t1, String node) {
        int id = m.term(c, t0, t1);
        if (id != -1) {
            ids.putIfAbsent(node, id);
            Check.due(node, id, ids.get(node));
        }
    }

    private static void differentTermsDiffer() {
        BacktrackMatch m = Check.stocked();
        Check.due("C(D, A), the children of C(A, D) the other way round", m.term(2, 1, 0), 6);
        Check.due("C(D, D), only child 0 other than in C(A, D)", m.term(2, 1, 1), 7);
        Check.due("B(D), only the child other than in B(A)", m.term(1, 1, 0), 8);
        differInTheConstructorAlone();
    }

    private static void differInTheConstructorAlone() {
        BacktrackMatch up = new BacktrackMatch(64, 64, 8);
        BacktrackMatch down = new BacktrackMatch(64, 64, 8);
        for (int n = 0; n < 6; n++) {
            up.defCons(n / 2);
            down.defCons(2 - n / 2);
        }
        for (int n = 0; n < 6; n++) {
            Check.due("constructor " + n + " over the same children", up.term(n, 0, 0), n);
            Check.due("constructor " + (5 - n) + " over the same children", down.term(5 - n, 0, 0), n);
        }
        Check.due("terms", up.count(BacktrackMatch.COUNT_TERMS), 6);
        Check.due("terms", down.count(BacktrackMatch.COUNT_TERMS), 6);
    }

    private static void everyPhase() {
        BacktrackMatch m = Check.declared();
        Check.due("before any pattern", m.term(0, 0, 0), 0);
        int p = Check.wild(m);
        Check.due("with a pattern", m.term(1, 0, 0), 1);
        Check.plainRow(m, p);
        Check.due("with a row", m.term(1, 1, 0), 2);
        m.compile();
        Check.due("after compile", m.term(1, 2, 0), 3);
        Check.due("a find after compile", m.term(1, 0, 0), 1);
        m.match(3);
        Check.due("after a match", m.term(1, 3, 0), 4);
        m.reset();
        Check.due("after reset", m.term(1, 4, 0), 5);
        m.compile();
        Check.due("compiled without rows", m.term(1, 5, 0), 6);
    }

    private static void changesNothingElse() {
        BacktrackMatch m = Check.matched();
        String before = Check.results(m);
        Check.due("a new term", m.term(1, 2, 0), 6);
        Check.due("a found term", m.term(2, 2, 3), 4);
        Check.due("a refused term", m.term(1, 99, 0), -1);
        Check.due("the results", Check.results(m), before);
        Check.due("the counts", Check.counts(m), "counts -1 4 7 11 3 1 -1");
        Check.due("the match of B(A)", m.match(2), 1);
        Check.due("the match of C(A, A)", m.match(5), 0);
        BacktrackMatch open = Check.declared();
        int child = Check.wild(open);
        int parent = Check.as(open, 0, child);
        open.term(0, 0, 0);
        Check.due("the counts", Check.counts(open), "counts -1 4 1 2 0 0 -1");
        Check.due("a row of the used pattern", Check.plainRow(open, child), -1);
        Check.due("a row of the free pattern", Check.plainRow(open, parent), 0);
    }

    private static void laterTermsAreMatched() {
        BacktrackMatch m = Check.stocked();
        int inner = Check.cons(m, 1, Check.var(m, 0), 0);
        Check.plainRow(m, Check.cons(m, 1, inner, 0));
        m.compile();
        Check.due("match of a term that is not there yet", m.match(6), BacktrackMatch.REFUSED);
        Check.due("B(B(A)) built after compile", m.term(1, 2, 0), 6);
        Check.due("match of it", m.match(6), 0);
        Check.due("its binding", m.binding(0), 0);
        BacktrackMatch full = Check.declared();
        Check.fillPatterns(full);
        Check.plainRow(full, 63);
        full.term(0, 0, 0);
        for (int t = 1; t < 64; t++) {
            full.term(1, t - 1, 0);
            Check.due("pattern 63 and term " + t, full.rowPatternMatches(0, t), true);
        }
    }
}
