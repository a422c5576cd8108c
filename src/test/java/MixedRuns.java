import java.util.function.Consumer;

/** Long mixed runs of calls, right and wrong ones; the same every time, as a test must not depend on a random source. */
final class MixedRuns {
    private static final int[] CAPACITIES = {Integer.MIN_VALUE, -1, 0, 1, 2, 5, 7, 8, 9, 12, 30, 63, 64, 65, Integer.MAX_VALUE};
    private static final int[] ODD = {-2, -1, 0, 1, 7, 8, 9, 63, 64, 65, Integer.MIN_VALUE, Integer.MAX_VALUE};

    private long seed = 20261115L;

    /** Three arguments of the constructor, of every sort but more often the greatest. */
    int[] capacities() {
        int terms = CAPACITIES[below(CAPACITIES.length)];
        int patterns = below(2) == 0 ? 64 : CAPACITIES[below(CAPACITIES.length)];
        int rows = below(2) == 0 ? 8 : CAPACITIES[below(CAPACITIES.length)];
        return new int[] {terms, patterns, rows};
    }

    /** One run; each call is handed out to be made on m, whose counts tell what the next call can be about. */
    void run(BacktrackMatch m, Consumer<int[]> make) {
        for (int n = 1 + below(9); n > 0; n--) {
            make.accept(defCons());
        }
        for (int round = 1 + below(3); round > 0; round--) {
            for (int n = below(40); n > 0; n--) {
                make.accept(term(m));
            }
            for (int n = below(70); n > 0; n--) {
                make.accept(pat(m));
            }
            for (int n = below(12); n > 0; n--) {
                make.accept(addRow(m));
            }
            if (below(6) == 0) {
                // An end with open rows, where the used flags can still be told.
                return;
            }
            make.accept(new int[] {Calls.COMPILE});
            for (int n = below(40); n > 0; n--) {
                make.accept(match(m));
                other(m, make);
            }
            if (below(3) != 0) {
                make.accept(new int[] {Calls.RESET});
            }
        }
    }

    private void other(BacktrackMatch m, Consumer<int[]> make) {
        switch (below(12)) {
            case 0:
                make.accept(term(m));
                break;
            case 1:
                make.accept(pat(m));
                break;
            case 2:
                make.accept(addRow(m));
                break;
            case 3:
                make.accept(defCons());
                break;
            case 4:
                make.accept(new int[] {Calls.COMPILE});
                break;
            default:
                break;
        }
        make.accept(new int[] {Calls.ROW_PATTERN_MATCHES, number(8), number(m.count(BacktrackMatch.COUNT_TERMS))});
        make.accept(new int[] {Calls.TERM_HEIGHT, number(m.count(BacktrackMatch.COUNT_TERMS))});
    }

    private int[] defCons() {
        return new int[] {Calls.DEF_CONS, number(3)};
    }

    private int[] term(BacktrackMatch m) {
        int terms = m.count(BacktrackMatch.COUNT_TERMS);
        return new int[] {Calls.TERM, number(m.count(BacktrackMatch.COUNT_CONS)), number(terms), number(terms)};
    }

    private int[] pat(BacktrackMatch m) {
        int patterns = m.count(BacktrackMatch.COUNT_PATTERNS);
        int kind = number(4);
        int a = recent(patterns);
        if (kind == BacktrackMatch.P_AS) {
            a = number(BacktrackMatch.NUM_VARS);
        } else if (kind == BacktrackMatch.P_CONS) {
            a = number(m.count(BacktrackMatch.COUNT_CONS));
        }
        return new int[] {Calls.PAT, kind, a, recent(patterns), recent(patterns)};
    }

    private int[] addRow(BacktrackMatch m) {
        int kind = number(5);
        int g2 = number(BacktrackMatch.NUM_VARS);
        if (kind == BacktrackMatch.G_LOW) {
            g2 = number(5);
        } else if (kind == BacktrackMatch.G_HEAD) {
            g2 = number(m.count(BacktrackMatch.COUNT_CONS));
        }
        return new int[] {Calls.ADD_ROW, recent(m.count(BacktrackMatch.COUNT_PATTERNS)), kind, number(BacktrackMatch.NUM_VARS), g2};
    }

    private int[] match(BacktrackMatch m) {
        int method = below(2) == 0 ? Calls.MATCH : Calls.MATCH_IN_ORDER;
        return new int[] {method, number(m.count(BacktrackMatch.COUNT_TERMS))};
    }

    private int below(int bound) {
        seed = seed * 6364136223846793005L + 1442695040888963407L;
        return (int) ((seed >>> 33) % bound);
    }

    /** Mostly a number that means something, now and then an odd one. */
    private int number(int size) {
        return size < 1 || below(25) == 0 ? ODD[below(ODD.length)] : below(size);
    }

    /** The newest ids come more often, so that trees and terms grow. */
    private int recent(int size) {
        return below(3) != 0 && size > 4 ? size - 1 - below(4) : number(size);
    }
}
