import java.util.ArrayList;
import java.util.List;

/** Every method with every mixture of small, large and extreme ints, in states from the empty one to the full one. */
public final class ExtremesTest {
    private static final int[] INTS = {
        Integer.MIN_VALUE, Integer.MIN_VALUE + 1, -65536, -256, -64, -2, -1, 0, 1, 2, 3, 4, 5, 6, 7, 8, 9,
        62, 63, 64, 65, 255, 256, 4096, 65536, 1 << 26, 1 << 29, Integer.MAX_VALUE - 1, Integer.MAX_VALUE,
    };
    /** Fewer for the methods of four parameters, where every mixture of them all would be too many. */
    private static final int[] FEWER_INTS = {
        Integer.MIN_VALUE, -1, 0, 1, 2, 3, 4, 7, 8, 63, 64, Integer.MAX_VALUE,
    };

    public static void main(String[] args) {
        for (State state : states()) {
            for (int method = 0; method < Calls.methods(); method++) {
                int number = method;
                Check.sentence("No call may ever throw or fail to end, for any arguments in any state", () -> sweep(state, number));
            }
        }
        Check.end();
    }

    /** How a state is reached: the arguments of the constructor and the calls after it. */
    private static final class State {
        private final String name;
        private final int capacity;
        private final List<int[]> calls = new ArrayList<>();

        State(String name, int capacity) {
            this.name = name;
            this.capacity = capacity;
        }

        State then(int... call) {
            calls.add(call);
            return this;
        }

        /** The same state under another name, to go on from. */
        State as(String newName) {
            State copy = new State(newName, capacity);
            copy.calls.addAll(calls);
            return copy;
        }

        BacktrackMatch program() {
            BacktrackMatch m = new BacktrackMatch(capacity, capacity, capacity);
            for (int[] call : calls) {
                Calls.make(call, m);
            }
            return m;
        }

        Model model() {
            Model m = new Model(capacity, capacity, capacity);
            for (int[] call : calls) {
                Calls.make(call, m);
            }
            return m;
        }
    }

    private static List<State> states() {
        List<State> states = new ArrayList<>();
        for (int capacity : new int[] {Integer.MIN_VALUE, Integer.MAX_VALUE}) {
            State fresh = new State("new, capacity " + capacity, capacity);
            State bare = fresh.as(fresh.name + ", compiled").then(Calls.COMPILE);
            State declared = fresh.as(fresh.name + ", constructors").then(Calls.DEF_CONS, 0).then(Calls.DEF_CONS, 1).then(Calls.DEF_CONS, 2);
            State eight = declared.as(fresh.name + ", eight constructors");
            for (int n = 3; n < 8; n++) {
                eight.then(Calls.DEF_CONS, n % 3);
            }
            State terms = declared.as(fresh.name + ", terms").then(Calls.TERM, 0, 0, 0).then(Calls.TERM, 1, 0, 0).then(Calls.TERM, 2, 0, 1);
            State open = withRows(terms.as(fresh.name + ", rows"));
            State matched = open.as(fresh.name + ", matched").then(Calls.COMPILE).then(Calls.MATCH, 2);
            State reset = matched.as(fresh.name + ", reset").then(Calls.RESET);
            State full = withAllFull(eight.as(fresh.name + ", all full"));
            State fullMatched = full.as(fresh.name + ", all full, matched").then(Calls.COMPILE).then(Calls.MATCH_IN_ORDER, 7);
            states.addAll(List.of(fresh, bare, declared, eight, terms, open, matched, reset, full, fullMatched));
        }
        return states;
    }

    /** Row 0 is C(x0, _) with a guard, where there is room row 1 is anything; patterns 4 and 5 are free. */
    private static State withRows(State state) {
        int wild = BacktrackMatch.P_WILD;
        state.then(Calls.PAT, wild, 0, 0, 0).then(Calls.PAT, BacktrackMatch.P_AS, 0, 0, 0).then(Calls.PAT, wild, 0, 0, 0);
        state.then(Calls.PAT, BacktrackMatch.P_CONS, 2, 1, 2).then(Calls.ADD_ROW, 3, BacktrackMatch.G_LOW, 0, 1);
        state.then(Calls.PAT, wild, 0, 0, 0).then(Calls.PAT, wild, 0, 0, 0);
        return state.then(Calls.PAT, wild, 0, 0, 0).then(Calls.ADD_ROW, 6, BacktrackMatch.G_SAME, 7, 7);
    }

    /** Calls past the capacity are refused, so that every store is full whatever the capacity is. */
    private static State withAllFull(State state) {
        state.then(Calls.TERM, 0, 0, 0);
        for (int t = 0; t < 64; t++) {
            state.then(Calls.TERM, 1, t, 0);
        }
        for (int r = 0; r < 8; r++) {
            state.then(Calls.PAT, BacktrackMatch.P_WILD, 0, 0, 0);
        }
        for (int r = 0; r < 8; r++) {
            state.then(Calls.ADD_ROW, r, BacktrackMatch.G_DIFF, 7, 0);
        }
        for (int p = 8; p < 65; p++) {
            state.then(Calls.PAT, BacktrackMatch.P_WILD, 0, 0, 0);
        }
        return state;
    }

    /** A call that may have changed something is followed by a new start; the refused ones are made on one object. */
    private static void sweep(State state, int method) {
        BacktrackMatch program = state.program();
        Model model = state.model();
        int[] ints = Calls.parameters(method) == 4 ? FEWER_INTS : INTS;
        int[] call = new int[1 + Calls.parameters(method)];
        call[0] = method;
        int mixtures = (int) Math.pow(ints.length, Calls.parameters(method));
        for (int mixture = 0; mixture < mixtures; mixture++) {
            int rest = mixture;
            for (int i = 1; i < call.length; i++) {
                call[i] = ints[rest % ints.length];
                rest /= ints.length;
            }
            int answer = Calls.compare(state.name + ":", call, program, model);
            if (method <= Calls.MATCH_IN_ORDER && !Calls.refused(call, answer)) {
                Calls.compareReads(state.name + ": after " + Calls.text(call) + ":", program, model);
                program = state.program();
                model = state.model();
            }
        }
        Calls.compareReads(state.name + ": at the end of all refused calls of one method:", program, model);
        Check.same(state.name + ": what is left after all refused calls of method " + method, program, state.program());
    }
}
