import java.util.Arrays;

/** Mixed runs of calls on one object, and the same runs without the refused calls and the reads on another one. */
public final class RefusedCallsTest {
    private static final int RUNS = 300;

    private static int refused = 0;

    public static void main(String[] args) {
        Check.sentence("A refused call answers as stated and changes nothing at all.", RefusedCallsTest::compareRuns);
        Check.end();
    }

    private static void compareRuns() {
        MixedRuns runs = new MixedRuns();
        for (int run = 0; run < RUNS; run++) {
            int[] size = runs.capacities();
            String when = "run " + run + " " + Arrays.toString(size);
            BacktrackMatch program = new BacktrackMatch(size[0], size[1], size[2]);
            BacktrackMatch quiet = new BacktrackMatch(size[0], size[1], size[2]);
            runs.run(program, call -> compareCall(when, call, program, quiet));
            Check.same(when + ": what is left", program, quiet);
        }
        System.out.println(refused + " calls were refused");
        Check.due("enough calls are refused", refused > 20 * RUNS, true);
    }

    private static void compareCall(String when, int[] call, BacktrackMatch program, BacktrackMatch quiet) {
        int answer = Calls.make(call, program);
        if (Calls.refused(call, answer)) {
            refused++;
        } else if (call[0] <= Calls.MATCH_IN_ORDER) {
            Check.due(when + " " + Calls.text(call), answer, Calls.make(call, quiet));
        }
        Check.due(when + ": the picture after " + Calls.text(call), Check.picture(program), Check.picture(quiet));
    }
}
