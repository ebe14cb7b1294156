import java.lang.reflect.Method;
import java.nio.file.Files;
import java.nio.file.Path;
import java.util.ArrayList;
import java.util.List;
import java.util.regex.Matcher;
import java.util.regex.Pattern;

/** README.md says how to use the class: its example answers as it says, and its tables name each call as it is. */
public final class ReadmeTest {
    private static final Path README = Path.of("README.md");
    /** Such as "x.at(0, 7, 0);    // 18: where guard 0 stands". */
    private static final Pattern EXAMPLE = Pattern.compile("^x\\.(\\w+\\(.*\\)); +// (-?\\d+):? ?.*$");
    /** Such as "| 13 | `at(g, t, what)` | a guard; a second; .. |". */
    private static final Pattern ROW = Pattern.compile("^\\| (\\d+) \\| `(\\w+)\\(([^)]*)\\)` \\|.*$");
    private static final Pattern SIGN = Pattern.compile("'(.)'");
    private static final int FIRST_CALL = 2, LAST_CALL = 41, COLUMNS = 5;

    public static void main(String[] args) throws Exception {
        Checks k = new Checks();
        List<String> lines = Files.readAllLines(README);
        example(k, lines);
        tables(k, lines);
        refusals(k, String.join("\n", lines));
        k.end("ReadmeTest");
    }

    private static void example(Checks k, List<String> lines) {
        Called x = new Called(List.of());
        int calls = 0;
        for (String line : lines) {
            Matcher m = EXAMPLE.matcher(line);
            if (m.matches()) {
                String call = SIGN.matcher(m.group(1)).replaceAll(r -> "" + (int) r.group(1).charAt(0));
                k.due("README: " + line, x.call(call), Long.parseLong(m.group(2)));
                calls++;
            } else {
                k.due("README: a call without its answer: " + line, line.startsWith("x.") ? 1 : 0, 0);
            }
        }
        k.due("README: an example of many calls", calls > 20 ? 1 : 0, 1);
    }

    private static void tables(Checks k, List<String> lines) {
        List<String> methods = new ArrayList<>();
        for (Method m : GuardsLookLeft.class.getDeclaredMethods()) {
            methods.add(m.getName() + " of " + m.getParameterCount());
        }
        int promise = FIRST_CALL;
        for (String line : lines) {
            Matcher m = ROW.matcher(line);
            if (!m.matches()) continue;
            k.due("README: each promise in its turn: " + line, Integer.parseInt(m.group(1)), promise);
            int numbers = m.group(3).isEmpty() ? 0 : m.group(3).split(",").length;
            k.due("README: as the class has it: " + line, methods.contains(m.group(2) + " of " + numbers) ? 1 : 0, 1);
            k.due("README: what it takes, answers, refuses: " + line, line.chars().filter(c -> c == '|').count(), COLUMNS + 1);
            promise++;
        }
        k.due("README: all calls", promise, LAST_CALL + 1);
    }

    private static void refusals(Checks k, String all) {
        for (String told : new String[] {"`NONE` | " + GuardsLookLeft.NONE, "`BAD` | " + GuardsLookLeft.BAD,
            "`STATE` | " + GuardsLookLeft.STATE, "`FULL` | " + GuardsLookLeft.FULL, "`NO` | " + GuardsLookLeft.NO}) {
            k.due("README: " + told, all.contains("| " + told + ":") ? 1 : 0, 1);
        }
        k.due("README: where the document is", all.contains("../shared/DOC.md") ? 1 : 0, 1);
        k.due("README: how its tests are run", all.contains("bash .ci/run") ? 1 : 0, 1);
    }
}
