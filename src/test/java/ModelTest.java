import java.util.Arrays;

/** Long mixed runs of calls, right and wrong ones, on the program and on the model of the document. */
public final class ModelTest {
    private static final int RUNS = 6000;

    private static int selected = 0;

    public static void main(String[] args) {
        Check.sentence("every answer and every effect visible through the public methods is as stated above", ModelTest::compareRuns);
        Check.end();
    }

    private static void compareRuns() {
        MixedRuns runs = new MixedRuns();
        for (int run = 0; run < RUNS; run++) {
            int[] size = runs.capacities();
            String when = "run " + run + " " + Arrays.toString(size);
            BacktrackMatch program = new BacktrackMatch(size[0], size[1], size[2]);
            Model model = new Model(size[0], size[1], size[2]);
            runs.run(program, call -> compareCall(when, call, program, model));
        }
        System.out.println(selected + " matches selected a row");
        Check.due("enough matches select a row", selected > RUNS, true);
    }

    private static void compareCall(String when, int[] call, BacktrackMatch program, Model model) {
        int answer = Calls.compare(when, call, program, model);
        if (answer >= 0 && (call[0] == Calls.MATCH || call[0] == Calls.MATCH_IN_ORDER)) {
            selected++;
        }
        Calls.compareReads(when + " after " + Calls.text(call), program, model);
    }
}
