import java.lang.reflect.Method;
import java.util.ArrayList;
import java.util.Arrays;
import java.util.HashMap;
import java.util.List;
import java.util.Map;
import java.util.Random;

/** Runs of calls by (seeded) lot on the class and on the Model: each answer is compared. */
public final class RandomRunsTest {
    /** Per method its arguments: the greatest good one each, S a set of cells; and how often it comes. */
    private static final String[] FACE = {
        "lay 2 S 2", "laid 2 1", "put 35 2 1 6", "count 6 3", "feed 5 255 255 255 255 255 1", "text 1", "force 5 5",
        "asks 2 99 9 23 999 6", "guard 5 35 39 9 3", "set 4 1 23 8", "guardTold 4 5 3", "at 4 23 2 4",
        "sees 4 23 4", "watched 23 3", "alone 35 2", "unseen 35 2", "worst 3 3",
        "soon 35 35 23 5", "path 35 35 23 24 6", "hides 35 23 24 3", "when 35 35 2", "more 35 35 3 1",
        "shift 4 1 2", "holds S 24 3", "bribes S 24 3", "fewest S 24 1 4",
        "judge 3 35 4", "which 3 2", "laws 3 35 3", "gone 3 35 4", "film 3 35 5",
        "drawn 99999 2", "mean 99999 12 1 1", "image 1", "back 1",
        "sheet 3 2 40 4", "cell 3 39 9 5", "copy 3 39 3 39 12 4", "guardsBy 3 2 20 3 3", "taken 40 6 6",
    };
    private static final int RUNS = 1500, CALLS = 60;

    private final Random lot;
    private final Map<String, Method[]> methods = new HashMap<>();
    private final List<String> story = new ArrayList<>();
    private final Map<String, Map<Long, Integer>> answers;
    private GuardsLookLeft real;
    private Model model;

    private RandomRunsTest(long seed, Map<String, Map<Long, Integer>> answers) throws Exception {
        lot = new Random(seed);
        this.answers = answers;
        for (Method m : GuardsLookLeft.class.getMethods()) {
            if (m.getDeclaringClass() == GuardsLookLeft.class) {
                Method other = Model.class.getDeclaredMethod(m.getName(), m.getParameterTypes());
                methods.put(m.getName(), new Method[] {m, other});
            }
        }
    }

    public static void main(String[] args) throws Exception {
        long first = args.length > 0 ? Long.parseLong(args[0]) : 1;
        int runs = args.length > 1 ? Integer.parseInt(args[1]) : RUNS;
        Map<String, Map<Long, Integer>> answers = new HashMap<>();
        for (int run = 0; run < runs; run++) {
            new RandomRunsTest(first + run, answers).go();
        }
        System.out.println(runs + " runs by lot answer as the model does");
        if (args.length > 2) {
            answers.forEach((name, map) -> {
                List<Map.Entry<Long, Integer>> most = new ArrayList<>(map.entrySet());
                most.sort((x, y) -> y.getValue() - x.getValue());
                System.out.println(name + " " + map.size() + " " + most.subList(0, Math.min(12, most.size())));
            });
        }
    }

    private void go() throws Exception {
        real = new GuardsLookLeft();
        model = new Model();
        prepare();
        int weights = 0;
        for (String f : FACE) weights += weight(f);
        for (int i = 0; i < CALLS; i++) {
            int at = lot.nextInt(weights + 2);
            if (at >= weights) {
                feedText();
                continue;
            }
            int f = 0;
            for (; at >= weight(FACE[f]); f++) at -= weight(FACE[f]);
            String[] spec = FACE[f].split(" ");
            Object[] args = new Object[spec.length - 2];
            for (int j = 0; j < args.length; j++) args[j] = spec[j + 1].equals("S") ? (Object) set() : (Object) number(Integer.parseInt(spec[j + 1]));
            call(spec[0], args);
        }
    }

    private static int weight(String spec) {
        return Integer.parseInt(spec.substring(spec.lastIndexOf(' ') + 1));
    }

    private void prepare() throws Exception {
        int[] homes = new int[5];
        for (int g = 0; g < 5; g++) homes[g] = lot.nextInt(36);
        boolean small = lot.nextInt(3) == 0;
        if (small) {
            call("lay", 0, (1L << 36) - 1 & ~fewCells(homes));
        }
        int[] densities = {lot.nextInt(14), lot.nextInt(20), lot.nextInt(14)};
        for (int what = small ? 1 : 0; what < 3; what++) {
            long set = 0;
            for (int i = 0; i < densities[what]; i++) set |= 1L << lot.nextInt(36);
            call("lay", what, set);
        }
        int guards = small ? 2 + lot.nextInt(4) : lot.nextInt(6);
        for (int g = 0; g < guards; g++) {
            call("guard", lot.nextInt(6), homes[g], 10 * lot.nextInt(4) + lot.nextInt(6), lot.nextInt(10));
            call("set", g, 0, lot.nextInt(24));
        }
        int texts = lot.nextInt(4);
        for (int t = 0; t < texts; t++) feedText();
        if (lot.nextInt(3) > 0) call("force", lot.nextInt(1 + texts));
        if (lot.nextInt(2) == 0) call("film", lot.nextInt(4), lot.nextInt(36));
    }

    /** Some cells side by side, and in homes some of them. */
    private long fewCells(int[] homes) {
        int c = lot.nextInt(36);
        long cells = 0;
        int size = 1 + lot.nextInt(7);
        for (int i = 0; i < size; i++) {
            cells |= 1L << c;
            homes[lot.nextInt(5)] = c;
            int next = Model.beside(c, lot.nextInt(4));
            c = next < 0 ? c : next;
        }
        return cells;
    }

    private int number(int most) {
        switch (lot.nextInt(40)) {
            case 0: return -1;
            case 1: return most + 1;
            case 2: return new int[] {Integer.MIN_VALUE, Integer.MAX_VALUE, -most, -13, most + 2}[lot.nextInt(5)];
            case 3: return lot.nextBoolean() ? 0 : most;
            case 4: return lot.nextInt();
            default: return lot.nextInt(most + 1);
        }
    }

    private long set() {
        switch (lot.nextInt(16)) {
            case 0: return (1L << 36) - 1;
            case 1: return 0;
            case 2: return new long[] {-1L, 1L << 36, Long.MIN_VALUE, Long.MAX_VALUE, 1L << 40 | 5}[lot.nextInt(5)];
            default:
                long set = 0;
                for (int i = lot.nextInt(7); i >= 0; i--) set |= 1L << lot.nextInt(36);
                return set;
        }
    }

    private void feedText() throws Exception {
        StringBuilder b = new StringBuilder();
        String[] keys = {"reach", "sees", "worth"};
        for (String key : keys) {
            b.append(key).append(lot.nextInt(9) == 0 ? "\n" : " ");
            String easy = key.equals("reach") ? lot.nextInt(10) + (lot.nextInt(3) == 0 ? " + lit" : "")
                : key.equals("sees") ? new String[] {"1", "lit", "far < 3 or lit", "not lit"}[lot.nextInt(4)] : "cell";
            b.append(lot.nextInt(3) == 0 ? easy : e(lot.nextInt(4))).append(lot.nextInt(2) == 0 ? ";" : " ; ");
        }
        if (lot.nextInt(3) == 0) {
            int place = lot.nextInt(b.length());
            String signs = "();+-*<=0123456789 abzA\n!:,/'%\u00e9\0";
            char sign = signs.charAt(lot.nextInt(signs.length()));
            switch (lot.nextInt(4)) {
                case 0: b.deleteCharAt(place); break;
                case 1: b.setCharAt(place, sign); break;
                case 2: b.insert(place, sign); break;
                default: b.setLength(place);
            }
        }
        if (b.length() > 160 && lot.nextInt(5) > 0) return;
        for (int i = 0; i < b.length();) {
            int[] five = new int[5];
            int n = Math.min(b.length() - i, 1 + lot.nextInt(5));
            for (int j = 0; j < n; j++) five[j] = b.charAt(i + j);
            call("feed", n, five[0], five[1], five[2], five[3], five[4]);
            i += n;
        }
        call("text");
    }

    private String blank() {
        return lot.nextInt(4) == 0 ? "" : " ";
    }

    private String e(int depth) {
        String s = and(depth);
        while (lot.nextInt(5) == 0) s += " or " + and(depth);
        return s;
    }

    private String and(int depth) {
        String s = not(depth);
        while (lot.nextInt(5) == 0) s += " and " + not(depth);
        return s;
    }

    private String not(int depth) {
        if (depth > 0 && lot.nextInt(5) == 0) return "not " + not(depth - 1);
        String s = sum(depth);
        if (lot.nextInt(3) == 0) s += blank() + (lot.nextBoolean() ? "<" : "=") + blank() + sum(depth);
        return s;
    }

    private String sum(int depth) {
        String s = term(depth);
        while (lot.nextInt(4) == 0) s += blank() + (lot.nextBoolean() ? "+" : "-") + blank() + term(depth);
        return s;
    }

    private String term(int depth) {
        String s = one(depth);
        while (lot.nextInt(5) == 0) s += blank() + "*" + blank() + one(depth);
        return s;
    }

    private String one(int depth) {
        int at = lot.nextInt(12);
        if (at < 2 && lot.nextInt(9) > 0) return "-" + blank() + one(depth - 1);
        if (at < 5 && depth > -1) return "(" + e(depth - 1) + ")";
        if (at < 9) return Model.NAMES.get(lot.nextInt(6));
        return "" + (lot.nextInt(6) == 0 ? lot.nextInt(12000) : lot.nextInt(12));
    }

    private long call(String name, Object... args) throws Exception {
        Method[] both = methods.get(name);
        String told = name + Arrays.toString(args);
        long due = ((Number) both[1].invoke(model, args)).longValue();
        story.add(told + " -> " + due);
        long got = ((Number) both[0].invoke(real, args)).longValue();
        if (got != due) {
            for (String s : story) System.out.println(s);
            System.out.println(told + " answered " + got + ", the model " + due);
            System.exit(1);
        }
        answers.computeIfAbsent(name, x -> new HashMap<>()).merge(due, 1, Integer::sum);
        return due;
    }
}
