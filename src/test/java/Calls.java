import java.util.Arrays;

/** Calls as arrays of ints, the method's number first, so that one call can be made on several objects. */
final class Calls {
    static final int DEF_CONS = 0;
    static final int TERM = 1;
    static final int PAT = 2;
    static final int ADD_ROW = 3;
    static final int COMPILE = 4;
    static final int RESET = 5;
    static final int MATCH = 6;
    static final int MATCH_IN_ORDER = 7;
    static final int ROW_PATTERN_MATCHES = 8;
    static final int LAST_ROW = 9;
    static final int BINDING = 10;
    static final int GUARD_LOG_LENGTH = 11;
    static final int GUARD_LOG_AT = 12;
    static final int TERM_HEIGHT = 13;
    static final int COUNT = 14;

    private static final String[] NAMES = {
        "defCons", "term", "pat", "addRow", "compile", "reset", "match", "matchInOrder",
        "rowPatternMatches", "lastRow", "binding", "guardLogLength", "guardLogAt", "termHeight", "count",
    };
    private static final int[] PARAMETERS = {1, 3, 4, 4, 0, 0, 1, 1, 2, 0, 1, 0, 1, 1, 1};

    private Calls() {
    }

    static int methods() {
        return NAMES.length;
    }

    static int parameters(int method) {
        return PARAMETERS[method];
    }

    static String text(int[] call) {
        String arguments = Arrays.toString(Arrays.copyOfRange(call, 1, call.length));
        return NAMES[call[0]] + "(" + arguments.substring(1, arguments.length() - 1) + ")";
    }

    /** Whether the answer says that the call was refused; what only reads is never refused. */
    static boolean refused(int[] call, int answer) {
        if (call[0] == MATCH || call[0] == MATCH_IN_ORDER) {
            return answer == BacktrackMatch.REFUSED;
        }
        return call[0] <= COMPILE && answer == -1;
    }

    /** The answer of the program; a boolean counts 1 or 0, and so does the end of reset. */
    static int make(int[] call, BacktrackMatch m) {
        switch (call[0]) {
            case DEF_CONS:
                return m.defCons(call[1]);
            case TERM:
                return m.term(call[1], call[2], call[3]);
            case PAT:
                return m.pat(call[1], call[2], call[3], call[4]);
            case ADD_ROW:
                return m.addRow(call[1], call[2], call[3], call[4]);
            case COMPILE:
                return m.compile();
            case RESET:
                m.reset();
                return 1;
            case MATCH:
                return m.match(call[1]);
            case MATCH_IN_ORDER:
                return m.matchInOrder(call[1]);
            case ROW_PATTERN_MATCHES:
                return m.rowPatternMatches(call[1], call[2]) ? 1 : 0;
            case LAST_ROW:
                return m.lastRow();
            case BINDING:
                return m.binding(call[1]);
            case GUARD_LOG_LENGTH:
                return m.guardLogLength();
            case GUARD_LOG_AT:
                return m.guardLogAt(call[1]);
            case TERM_HEIGHT:
                return m.termHeight(call[1]);
            default:
                return m.count(call[1]);
        }
    }

    /** The answer of the model, told in the same way. */
    static int make(int[] call, Model m) {
        switch (call[0]) {
            case DEF_CONS:
                return m.defCons(call[1]);
            case TERM:
                return m.term(call[1], call[2], call[3]);
            case PAT:
                return m.pat(call[1], call[2], call[3], call[4]);
            case ADD_ROW:
                return m.addRow(call[1], call[2], call[3], call[4]);
            case COMPILE:
                return m.compile();
            case RESET:
                m.reset();
                return 1;
            case MATCH:
            case MATCH_IN_ORDER:
                return m.match(call[1]);
            case ROW_PATTERN_MATCHES:
                return m.rowPatternMatches(call[1], call[2]) ? 1 : 0;
            case LAST_ROW:
                return m.lastRow();
            case BINDING:
                return m.binding(call[1]);
            case GUARD_LOG_LENGTH:
                return m.guardLogLength();
            case GUARD_LOG_AT:
                return m.guardLogAt(call[1]);
            case TERM_HEIGHT:
                return m.termHeight(call[1]);
            default:
                return m.count(call[1]);
        }
    }

    /** Makes the call on both and compares the answers. */
    static int compare(String when, int[] call, BacktrackMatch program, Model model) {
        int got = make(call, program);
        int due = make(call, model);
        if (got != due) {
            Check.due(when + " " + text(call), got, due);
        }
        return got;
    }

    /** Compares what can be read of the results and the counts. */
    static void compareReads(String when, BacktrackMatch program, Model model) {
        compare(when, new int[] {LAST_ROW}, program, model);
        compare(when, new int[] {GUARD_LOG_LENGTH}, program, model);
        for (int n = -1; n <= 8; n++) {
            compare(when, new int[] {BINDING, n}, program, model);
            compare(when, new int[] {GUARD_LOG_AT, n}, program, model);
            compare(when, new int[] {COUNT, n}, program, model);
        }
    }
}
