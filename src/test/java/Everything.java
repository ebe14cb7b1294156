import java.util.ArrayList;
import java.util.List;

/**
 * All that can be asked of an object, so that two objects can be told apart. What is asked is shared out among
 * several objects that have gone through the same calls: 512 calls are promised for each, and some of the asking
 * (what is on the tape, what a sheet's numbers are) uses up what it asks for.
 */
final class Everything {
    private static final List<List<String>> SHARES = new ArrayList<>();
    private static final int ONE_SHARE = 300;

    static {
        share(told());
        share(seen());
        for (int g = 0; g < 5; g++) share(guard(g));
        share(thief());
        share(bribes());
        share(taken());
        share(rows());
        for (int s = 0; s < 4; s++) {
            share(judged(s));
            for (int sort = 0; sort < 3; sort++) {
                share(numbers(s, sort, 0));
                share(numbers(s, sort, 20));
            }
        }
        share(laws());
        share(tape("text()"));
        share(tape("feed(1, 59, 0, 0, 0, 0)"));
        share(tape("feed(5, 120, 120, 120, 120, 120)"));
        share(more("back()", told()));
        share(more("back()", seen()));
        share(more("back()", rows()));
        share(more("guard(1, 0, 10, 0)", more("guard(0, 35, 35, 9)", seen())));
    }

    private static void share(List<String> calls) {
        if (calls.size() > ONE_SHARE) throw new IllegalStateException("too long a share: " + calls.size());
        SHARES.add(calls);
    }

    /** All answers, after the calls of a story. */
    static long[] of(List<String> story) {
        List<Long> answers = new ArrayList<>();
        for (List<String> share : SHARES) {
            Called x = new Called(story);
            for (String call : share) answers.add(x.call(call));
        }
        return answers.stream().mapToLong(v -> v).toArray();
    }

    /** The first answer that two objects don't share, in words; null: there is none. */
    static String firstOther(long[] one, long[] two) {
        int i = 0;
        for (int share = 0; share < SHARES.size(); share++) {
            for (String call : SHARES.get(share)) {
                if (one[i] != two[i]) return call + " (of share " + share + "): " + one[i] + ", due is " + two[i];
                i++;
            }
        }
        return null;
    }

    private static List<String> more(String call, List<String> others) {
        List<String> calls = new ArrayList<>();
        calls.add(call);
        calls.addAll(others);
        return calls;
    }

    private static List<String> told() {
        List<String> calls = new ArrayList<>();
        for (int what = 0; what < 3; what++) calls.add("laid(" + what + ")");
        for (int what = 0; what < 7; what++) calls.add("count(" + what + ")");
        for (int g = 0; g < 5; g++) {
            for (int what = 0; what < 6; what++) calls.add("guardTold(" + g + ", " + what + ")");
        }
        asks(calls);
        return calls;
    }

    private static void asks(List<String> calls) {
        for (int part = 0; part < 3; part++) {
            for (String names : new String[] {"0, 0, 0, 0", "11, 2, 3, 407", "20, 9, 23, 135", "31, 1, 12, 14"}) {
                calls.add("asks(" + part + ", " + names + ")");
            }
        }
    }

    private static List<String> seen() {
        List<String> calls = new ArrayList<>();
        for (int t = 0; t < 24; t++) calls.add("watched(" + t + ")");
        for (int c = 0; c < 36; c++) calls.add("alone(" + c + ")");
        for (int c = 0; c < 36; c++) calls.add("unseen(" + c + ")");
        for (int what = 0; what < 4; what++) calls.add("worst(" + what + ")");
        return calls;
    }

    private static List<String> guard(int g) {
        List<String> calls = new ArrayList<>();
        for (int t = 0; t < 24; t++) {
            for (int what = 0; what < 3; what++) calls.add("at(" + g + ", " + t + ", " + what + ")");
            calls.add("sees(" + g + ", " + t + ")");
        }
        return calls;
    }

    private static List<String> thief() {
        List<String> calls = new ArrayList<>();
        for (int a = 0; a < 36; a += 5) {
            int b = (a * 7 + 3) % 36;
            for (int t = 0; t < 24; t += 7) calls.add("soon(" + a + ", " + b + ", " + t + ")");
            for (int k = 0; k < 25; k += 4) calls.add("path(" + a + ", " + b + ", 3, " + k + ")");
            for (int k = 0; k < 25; k += 6) calls.add("hides(" + a + ", 20, " + k + ")");
            calls.add("when(" + a + ", " + b + ")");
        }
        for (int what = 0; what < 4; what++) calls.add("more(14, 2, " + what + ")");
        return calls;
    }

    private static List<String> bribes() {
        List<String> calls = new ArrayList<>();
        for (int g = 0; g < 5; g++) {
            calls.add("shift(" + g + ", 0)");
            calls.add("shift(" + g + ", 1)");
        }
        for (int k = 0; k < 25; k += 3) {
            calls.add("holds({2 14 20}, " + k + ")");
            calls.add("bribes({2 14}, " + k + ")");
            calls.add("fewest({2 14}, " + k + ", 0)");
            calls.add("fewest({2 14}, " + k + ", 1)");
        }
        for (int seed = 0; seed < 9; seed++) calls.add("drawn(" + seed + ")");
        calls.add("mean(5, 12, 0)");
        calls.add("mean(5, 12, 1)");
        return calls;
    }

    private static List<String> taken() {
        List<String> calls = new ArrayList<>();
        for (int i = 0; i < 41; i++) {
            for (int kind = i < 36 ? 5 : 0; kind < 7; kind++) calls.add("taken(" + i + ", " + kind + ")");
        }
        return calls;
    }

    /** Which sheets there are, of what sort and size: nothing is copied, nobody comes. */
    private static List<String> rows() {
        List<String> calls = new ArrayList<>();
        for (int s = 0; s < 4; s++) {
            calls.add("cell(" + s + ", 40, 0)");
            for (int sort = 0; sort < 3; sort++) calls.add("guardsBy(" + s + ", " + sort + ", 0, 0)");
            for (int i = 0; i < 41; i++) calls.add("copy(" + s + ", " + i + ", " + s + ", " + i + ", 0)");
        }
        return calls;
    }

    private static List<String> judged(int s) {
        List<String> calls = new ArrayList<>();
        calls.add("which(" + s + ")");
        for (int c = 0; c < 36; c++) {
            calls.add("judge(" + s + ", " + c + ")");
            calls.add("laws(" + s + ", " + c + ")");
            calls.add("gone(" + s + ", " + c + ")");
        }
        return calls;
    }

    /** Twenty numbers of a sheet, each told as the home of a guard, who goes back to nothing then. */
    private static List<String> numbers(int s, int sort, int from) {
        List<String> calls = new ArrayList<>();
        int by = (s + 1) % 4;
        calls.add("back()");
        calls.add("image()");
        for (int i = from; i < from + 20; i++) {
            calls.add("sheet(" + by + ", " + sort + ", 4)");
            calls.add("copy(" + s + ", " + i + ", " + by + ", 1, 1)");
            calls.add("guardsBy(" + by + ", " + sort + ", 0, 1)");
            for (int g = 0; g < 4; g++) calls.add("guardTold(" + g + ", 3)");
            calls.add("back()");
        }
        return calls;
    }

    private static List<String> laws() {
        List<String> calls = new ArrayList<>();
        for (int t = 0; t < 7; t++) {
            calls.add("force(" + t + ")");
            asks(calls);
        }
        return calls;
    }

    /** What the tape says; the first call may add to it. */
    private static List<String> tape(String first) {
        List<String> calls = new ArrayList<>();
        calls.add(first);
        calls.add("text()");
        for (int t = 1; t < 6; t++) {
            calls.add("force(" + t + ")");
            asks(calls);
        }
        calls.add("count(4)");
        calls.add("count(6)");
        return calls;
    }
}
