import java.io.IOException;
import java.nio.file.Files;
import java.nio.file.Path;
import java.util.ArrayList;
import java.util.List;

/** The example of README.md: its lines stand here too, and its answers are those that it tells. */
public final class ReadmeTest {
    private static final Path README = Path.of("README.md");
    private static final Path HERE = Path.of("src", "test", "java", "ReadmeTest.java");

    public static void main(String[] args) throws IOException {
        List<String> shown = shown();
        List<String> here = Files.readAllLines(HERE).stream().map(ReadmeTest::code).toList();
        Check.sentence("[the lines of README.md]", () -> dueHere(shown, here));
        Check.sentence("[the answers that README.md tells]", ReadmeTest::example);
        Check.end();
    }

    /** The lines of the first piece of Java in README.md. */
    private static List<String> shown() throws IOException {
        List<String> lines = Files.readAllLines(README);
        int start = lines.indexOf("```java") + 1;
        List<String> shown = new ArrayList<>();
        for (int n = start; !lines.get(n).equals("```"); n++) {
            if (!code(lines.get(n)).isEmpty()) {
                shown.add(code(lines.get(n)));
            }
        }
        return shown;
    }

    private static String code(String line) {
        return line.replaceFirst("//.*", "").strip();
    }

    private static void dueHere(List<String> shown, List<String> here) {
        int start = here.indexOf(shown.get(0));
        int end = start + shown.size();
        Check.due("the first line stands here", start >= 0, true);
        Check.due("the lines", String.join("\n", here.subList(Math.max(start, 0), Math.min(end, here.size()))), String.join("\n", shown));
    }

    private static void example() {
        BacktrackMatch m = new BacktrackMatch(64, 64, 8);
        int nil = m.defCons(0);
        int pair = m.defCons(2);
        int end = m.term(nil, 0, 0);
        int two = m.term(pair, end, end);
        int left = m.pat(BacktrackMatch.P_AS, 0, m.pat(BacktrackMatch.P_WILD, 0, 0, 0), 0);
        int right = m.pat(BacktrackMatch.P_AS, 1, m.pat(BacktrackMatch.P_WILD, 0, 0, 0), 0);
        int both = m.pat(BacktrackMatch.P_CONS, pair, left, right);
        m.addRow(both, BacktrackMatch.G_SAME, 0, 1);
        m.compile();
        int row = m.match(two);
        int bound = m.binding(0);
        int guards = m.guardLogLength();
        Check.due("row", row, 0);
        Check.due("bound", bound, end);
        Check.due("the id of end", end, 0);
        Check.due("guards", guards, 1);
    }
}
