import java.io.IOException;
import java.nio.file.Files;
import java.nio.file.Path;
import java.util.ArrayList;
import java.util.Arrays;
import java.util.List;
import java.util.Set;
import java.util.TreeSet;
import java.util.regex.Matcher;
import java.util.regex.Pattern;

/** The lines of README.md that show how the calls are used, a test for each call: it answers what stands behind it. */
public final class ReadmeTests extends SentenceTests {
    private static final Path PAGE = Path.of("README.md");
    private static final Set<String> FACE = Set.of("type", "wipe", "compile", "mutant", "test", "fuel", "run", "value", "took",
        "matrix", "killed", "reached", "score");
    private static final Pattern TYPED = Pattern.compile("for \\(char c : \"(.*)\"\\.toCharArray\\(\\)\\) \\{");
    private static final Pattern CALLED = Pattern.compile("t\\.(\\w+)\\(([^)]*)\\); +// (.*)");

    private static String text = "";
    private static final Set<String> shown = new TreeSet<>();

    public static void main(String[] args) throws IOException {
        List<String> lines = example(Files.readAllLines(PAGE));
        MutantTester t = new MutantTester();
        part(() -> lines.forEach(line -> check(t, line)));
        sentence("README.md: every call of the face is shown");
        due(new TreeSet<>(FACE), "calls", () -> shown);
        finish();
    }

    private static List<String> example(List<String> page) {
        int begin = page.indexOf("```java") + 1;
        int end = begin + page.subList(begin, page.size()).indexOf("```");
        return page.subList(begin, end);
    }

    private static void check(MutantTester t, String line) {
        Matcher typed = TYPED.matcher(line.strip());
        Matcher called = CALLED.matcher(line.strip());
        if (typed.matches()) {
            text = typed.group(1);
        } else if (called.matches()) {
            sentence("README.md: " + line.strip());
            shown.add(called.group(1));
            checkCall(t, called.group(1), called.group(2), called.group(3));
        }
    }

    private static void checkCall(MutantTester t, String name, String given, String told) {
        switch (name) {
            case "type":
                List<Integer> counts = new ArrayList<>();
                for (char c : text.toCharArray()) {
                    counts.add(t.type(c));
                }
                due(told.split(":")[0], "type", () -> counts.get(0) + ", then " + counts.get(1) + ", .. " + counts.get(counts.size() - 1));
                break;
            case "wipe":
                t.wipe();
                due(1, "the first character", () -> t.type('^'));
                break;
            default:
                int[] in = Arrays.stream(given.isEmpty() ? new String[0] : given.split(", ")).mapToInt(Integer::parseInt).toArray();
                due(told.split(":")[0], name, () -> String.valueOf(answer(() -> called(t, name, in))));
                break;
        }
    }

    private static Object called(MutantTester t, String name, int[] in) {
        switch (name) {
            case "compile":
                return t.compile();
            case "mutant":
                return t.mutant(in[0], in[1]);
            case "test":
                return t.test(in[0], in[1]);
            case "fuel":
                return t.fuel(in[0]);
            case "run":
                return t.run(in[0], in[1], in[2]);
            case "value":
                return t.value();
            case "took":
                return t.took();
            case "matrix":
                return t.matrix();
            case "killed":
                return t.killed(in[0], in[1]);
            case "reached":
                return t.reached(in[0], in[1]);
            case "score":
                return t.score(in[0]);
            default:
                throw new IllegalArgumentException("no call of the face: " + name);
        }
    }
}
