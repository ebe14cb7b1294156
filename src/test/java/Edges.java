import java.util.ArrayList;
import java.util.Arrays;
import java.util.HashMap;
import java.util.List;
import java.util.Map;

/**
 * The document's boundaries, each told by its sentence: a story (calls that come first), and rows such as
 * "put(36, 0, 1) -> -5", a call and the answer that is due. See Called for how numbers are told.
 */
final class Edges {
    /** Nothing but a new object. */
    static final List<String> NEW = List.of();
    /** Some of all there is, and room for more of each. */
    static final List<String> RICH = List.of(
        "lay(0, {1 22})", "lay(1, {3 17})", "lay(2, {10})", "image()",
        "lay(0, {9 16 33})", "lay(1, {0 7 13 20 28})", "lay(2, {4 19 25 35})",
        "guard(0, 12, 13, 2)", "guard(4, 21, 4, 1)", "guard(5, 30, 14, 6)",
        "set(0, 0, 5)", "set(1, 1, 3)", "set(2, 0, 23)",
        "says(reach 4 ; sees lit or far < 3 ; worth 2 + cell ;)",
        "says(reach 2+lit;sees not(far=2 and second<9);worth 7-lit;)", "force(1)",
        "tape(reach 5 ; sees cell < 30 ; worth 11 ; )",
        "film(0, 14)", "sheet(1, 0, 9)", "cell(1, 1, 22)", "cell(1, 2, 14)", "cell(1, 5, 31)", "cell(1, 8, 7)",
        "sheet(3, 1, 24)", "cell(3, 0, 1)", "cell(3, 23, 1)", "cell(3, 7, 35)");
    /** Five guards, six texts, a full tape. */
    static final List<String> FULL = List.of(
        "image()", "lay(0, {9 16 33})", "lay(1, {0 7 13 20 28})", "lay(2, {4 19 25 35})",
        "guard(4, 12, 13, 2)", "guard(1, 21, 20, 1)", "guard(2, 30, 14, 6)", "guard(3, 5, 30, 2)", "guard(5, 0, 5, 9)",
        "set(1, 0, 3)", "set(4, 0, 17)",
        "says(reach 1;sees 1;worth 1;)", "says(reach 2;sees 1;worth 2;)", "says(reach 3;sees 1;worth 3;)",
        "says(reach 4;sees 1;worth 4;)", "says(reach 5;sees 1;worth 5;)", "force(3)",
        "tape(reach 6 ; sees 1 ; worth 6 ;" + " ".repeat(132) + ")",
        "sheet(0, 0, 40)", "cell(0, 39, 8)", "film(1, 5)", "sheet(2, 2, 40)", "cell(2, 0, 12)", "sheet(3, 2, 4)");
    /** Walls everywhere. */
    static final List<String> WALLED = List.of("lay(0, ALL)");

    private final String name;
    private final Checks checks = new Checks();
    private final Map<List<String>, long[]> asItWas = new HashMap<>();

    Edges(String name) {
        this.name = name;
    }

    void end() {
        checks.end(name);
    }

    static List<String> with(List<String> story, String... calls) {
        List<String> all = new ArrayList<>(story);
        all.addAll(Arrays.asList(calls));
        return all;
    }

    static List<String> without(List<String> story, String call) {
        List<String> others = new ArrayList<>(story);
        others.removeIf(text -> text.startsWith(call));
        return others;
    }

    /** The rows one by one, on one object. */
    void answers(String sentence, List<String> story, String... rows) {
        Called x = new Called(story);
        for (String row : rows) {
            answer(sentence, x, row);
        }
    }

    /** Each row on an object of its own: its answer, and all that can be asked is as it was. */
    void changesNothing(String sentence, List<String> story, String... rows) {
        long[] due = asItWas.computeIfAbsent(story, Everything::of);
        for (String row : rows) {
            answer(sentence, new Called(story), row);
            compare(sentence + ": behind " + call(row), Everything.of(with(story, call(row))), due);
        }
    }

    /** Refusals: they change nothing. */
    void refused(String sentence, List<String> story, String... rows) {
        for (String row : rows) {
            if (due(row) >= 0) throw new IllegalStateException("no refusal: " + row);
        }
        changesNothing(sentence, story, rows);
    }

    /** Two stories behind which all that can be asked is the same. */
    void same(String sentence, List<String> story, List<String> other) {
        compare(sentence, Everything.of(story), Everything.of(other));
    }

    /** Two stories behind which something that can be asked isn't the same. */
    void unlike(String sentence, List<String> story, List<String> other) {
        String told = Everything.firstOther(Everything.of(story), Everything.of(other));
        checks.due(sentence, told == null ? 0 : 1, 1);
    }

    void due(String sentence, long got, long due) {
        checks.due(sentence, got, due);
    }

    private void compare(String sentence, long[] got, long[] due) {
        String other = Everything.firstOther(got, due);
        if (other != null) System.out.println(other);
        checks.due(sentence + (other == null ? "" : ": " + other), other == null ? 0 : 1, 0);
    }

    private void answer(String sentence, Called x, String row) {
        checks.due(sentence + ": " + call(row), x.call(call(row)), due(row));
    }

    private static String call(String row) {
        return row.substring(0, row.lastIndexOf(" -> "));
    }

    private static long due(String row) {
        return Called.number(row.substring(row.lastIndexOf(" -> ") + 4));
    }
}
