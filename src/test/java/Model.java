import java.util.ArrayList;
import java.util.Arrays;
import java.util.HashSet;
import java.util.List;
import java.util.Set;
import java.util.TreeSet;

/**
 * The document told a second time, as slowly and literally as can be (sets of cells, kinds as classes, texts as
 * trees, sheets as true rows of the host, whose exceptions are its refusals): what RandomRunsTest compares with.
 */
final class Model {
    static final int SECONDS = 24;
    static final long NO = GuardsLookLeft.NO;

    // ---- kinds

    static class Guard {
        int number, home, way, more, length, ahead;

        int steps(int s) {
            return s;
        }

        int turned(int s, int ofWalk) {
            return ofWalk;
        }

        boolean looks(int s) {
            return true;
        }

        int kind() {
            return 0;
        }
    }

    static class Fixed extends Guard {
        @Override int steps(int s) {
            return 0;
        }

        @Override int kind() {
            return 1;
        }
    }

    static class Lame extends Guard {
        @Override int steps(int s) {
            return (int) Math.floor(s / 2.0);
        }

        @Override int kind() {
            return 2;
        }
    }

    static class Turning extends Fixed {
        @Override int turned(int s, int ofWalk) {
            int w = ofWalk;
            for (int i = 0; i < s / (more + 1); i++) {
                w = left(w);
            }
            return w;
        }

        @Override int kind() {
            return 3;
        }
    }

    static class Asleep extends Lame {
        @Override boolean looks(int s) {
            return s % (more + 2) > 0;
        }

        @Override int kind() {
            return 4;
        }
    }

    static class Pacing extends Guard {
        @Override int steps(int s) {
            return super.steps(s) * 2;
        }

        @Override boolean looks(int s) {
            return !(s < more);
        }

        @Override int kind() {
            return 5;
        }
    }

    static Guard made(int kind) {
        return kind == 0 ? new Guard() : kind == 1 ? new Fixed() : kind == 2 ? new Lame()
            : kind == 3 ? new Turning() : kind == 4 ? new Asleep() : new Pacing();
    }

    static final Class<?>[] CLASSES = {Guard.class, Fixed.class, Lame.class, Turning.class, Asleep.class, Pacing.class};

    // ---- texts

    interface Node {
        int value(int[] names);
    }

    static final List<String> NAMES = List.of("far", "lit", "more", "second", "number", "cell");
    static final List<String> KEYS = List.of("reach", "sees", "worth", "or", "and", "not");

    static final class Fault extends RuntimeException {
        final int place;

        Fault(int place) {
            this.place = place;
        }
    }

    static final class Parser {
        final List<String> tokens = new ArrayList<>();
        final List<Integer> places = new ArrayList<>();
        final List<Boolean> good = new ArrayList<>();
        final int size;
        int i, open;

        Parser(String tape) {
            size = tape.length();
            int p = 0;
            while (p < size) {
                char c = tape.charAt(p);
                int q = p + 1;
                boolean fine;
                if (c == 32 || c == 10) {
                    p++;
                    continue;
                }
                if (Character.toString(c).matches("[a-z]")) {
                    while (q < size && tape.substring(q, q + 1).matches("[a-z]")) q++;
                    fine = NAMES.contains(tape.substring(p, q)) || KEYS.contains(tape.substring(p, q));
                } else if (Character.toString(c).matches("[0-9]")) {
                    while (q < size && tape.substring(q, q + 1).matches("[0-9]")) q++;
                    fine = q - p <= 4;
                } else {
                    fine = "();+-*<=".indexOf(c) >= 0;
                }
                tokens.add(tape.substring(p, q));
                places.add(p);
                good.add(fine);
                p = q;
            }
        }

        String token() {
            return i >= tokens.size() ? "" : !good.get(i) ? "?" : tokens.get(i);
        }

        Fault fault() {
            return new Fault(i >= tokens.size() ? size : places.get(i));
        }

        void take(String t) {
            if (!token().equals(t)) throw fault();
            i++;
        }

        void takeOpening(String t) {
            if (!token().equals(t) || open == 5) throw fault();
            open++;
            i++;
        }

        Node[] text() {
            Node[] parts = new Node[3];
            for (int p = 0; p < 3; p++) {
                take(KEYS.get(p));
                parts[p] = either();
                take(";");
            }
            if (i < tokens.size()) throw fault();
            return parts;
        }

        Node either() {
            Node a = both();
            while (token().equals("or")) {
                take("or");
                Node x = a, y = both();
                a = n -> (x.value(n) != 0 ? 1 : 0) + (y.value(n) != 0 ? 1 : 0) > 0 ? 1 : 0;
            }
            return a;
        }

        Node both() {
            Node a = not();
            while (token().equals("and")) {
                take("and");
                Node x = a, y = not();
                a = n -> x.value(n) == 0 ? 0 : y.value(n) == 0 ? 0 : 1;
            }
            return a;
        }

        Node not() {
            if (token().equals("not")) {
                takeOpening("not");
                Node x = not();
                open--;
                return n -> x.value(n) == 0 ? 1 : 0;
            }
            Node a = sum();
            if (token().equals("<")) {
                take("<");
                Node b = sum();
                return n -> a.value(n) < b.value(n) ? 1 : 0;
            }
            if (token().equals("=")) {
                take("=");
                Node b = sum();
                return n -> a.value(n) == b.value(n) ? 1 : 0;
            }
            return a;
        }

        Node sum() {
            Node a = term();
            while (token().equals("+") || token().equals("-")) {
                boolean plus = token().equals("+");
                i++;
                Node x = a, y = term();
                a = n -> plus ? x.value(n) + y.value(n) : x.value(n) - y.value(n);
            }
            return a;
        }

        Node term() {
            Node a = one();
            while (token().equals("*")) {
                take("*");
                Node x = a, y = one();
                a = n -> (int) ((long) x.value(n) * (long) y.value(n));
            }
            return a;
        }

        Node one() {
            String t = token();
            if (t.equals("-")) {
                takeOpening("-");
                Node x = one();
                open--;
                return n -> 0 - x.value(n);
            }
            if (t.equals("(")) {
                takeOpening("(");
                Node x = either();
                take(")");
                open--;
                return x;
            }
            if (NAMES.contains(t)) {
                i++;
                return n -> n[NAMES.indexOf(t)];
            }
            if (t.matches("[0-9]+")) {
                i++;
                return n -> Integer.parseInt(t);
            }
            throw fault();
        }
    }

    // ---- state

    List<Set<Integer>> layers = List.of(new TreeSet<>(), new TreeSet<>(), new TreeSet<>());
    List<Guard> guards = new ArrayList<>();
    List<Node[]> texts = new ArrayList<>();
    StringBuilder tape = new StringBuilder();
    int law;
    Object[] sheets = new Object[4];
    List<Set<Integer>> imageLayers;
    int[] imageAheads, imageLengths;
    int imageLaw;

    Model() {
        texts.add(new Parser("reach 3 ; sees lit or far < 2 ; worth 1 ;").text());
    }

    static int left(int w) {
        return w == 0 ? 3 : w - 1;
    }

    static int beside(int c, int way) {
        int x = c % 6, y = c / 6;
        if (way == 0) y++;
        if (way == 1) x++;
        if (way == 2) y--;
        if (way == 3) x--;
        return x < 0 || x > 5 || y < 0 || y > 5 ? -1 : 6 * y + x;
    }

    static boolean in(int v, int least, int most) {
        return least <= v && v <= most;
    }

    static boolean cells(long set) {
        return set >= 0 && set < 68719476736L;
    }

    static long bits(Iterable<Integer> set) {
        long sum = 0;
        for (int c : set) sum += (long) Math.pow(2, c);
        return sum;
    }

    static Set<Integer> setOf(long bits) {
        Set<Integer> set = new TreeSet<>();
        for (int c = 0; c < 64; c++) if ((bits >> c & 1) == 1) set.add(c);
        return set;
    }

    boolean wall(int c) {
        return layers.get(0).contains(c);
    }

    int lit(int c) {
        return layers.get(1).contains(c) ? 1 : 0;
    }

    // ---- the palace, the law

    long lay(int what, long set) {
        if (!in(what, 0, 2) || !cells(set)) return NO;
        long was = bits(layers.get(what));
        layers.get(what).clear();
        layers.get(what).addAll(setOf(set));
        return was;
    }

    long laid(int what) {
        return in(what, 0, 2) ? bits(layers.get(what)) : NO;
    }

    int put(int c, int what, int is) {
        if (!in(c, 0, 35)) return -5;
        if (!in(what, 0, 2) || !in(is, 0, 1)) return -7;
        boolean was = is == 1 ? !layers.get(what).add(c) : layers.get(what).remove(c);
        return was ? 1 : 0;
    }

    int count(int what) {
        if (!in(what, 0, 6)) return -2;
        return new int[] {guards.size(), layers.get(0).size(), layers.get(1).size(), layers.get(2).size(),
            texts.size(), law, tape.length()}[what];
    }

    int feed(int n, int a, int b, int c, int d, int e) {
        if (!in(n, 1, 5)) return -2;
        for (int v : new int[] {a, b, c, d, e}) if (!in(v, 0, 255)) return -2;
        if (tape.length() + n > 160) return -4;
        for (int v : Arrays.copyOf(new int[] {a, b, c, d, e}, n)) tape.append((char) v);
        return tape.length();
    }

    int text() {
        if (texts.size() == 6) return -4;
        String all = tape.toString();
        tape.setLength(0);
        try {
            texts.add(new Parser(all).text());
        } catch (Fault f) {
            return -100 - f.place;
        }
        return texts.size() - 1;
    }

    int force(int t) {
        if (!in(t, 0, texts.size() - 1)) return -2;
        int was = law;
        law = t;
        return was;
    }

    int says(int part, int far, int lit, int more, int second, int number, int cell) {
        int v = texts.get(law)[part].value(new int[] {far, lit, more, second, number, cell});
        if (part == 1) return v == 0 ? 0 : 1;
        int most = part == 0 ? 9 : 99;
        return v < 0 ? 0 : v > most ? most : v;
    }

    int asks(int part, int farLit, int more, int second, int numberCell) {
        if (!in(part, 0, 2) || !in(farLit, 0, 99) || !in(more, 0, 9) || !in(second, 0, 23)) return -2;
        if (!in(numberCell, 0, 999)) return -2;
        return says(part, farLit / 10, farLit % 10, more, second, numberCell / 100, numberCell % 100);
    }

    // ---- guards

    int guard(int kind, int cell, int wayLength, int more) {
        if (!in(kind, 0, 5) || !in(cell, 0, 35) || wayLength < 0 || !in(more, 0, 9)) return -2;
        if (!in(wayLength / 10, 0, 3) || !in(wayLength % 10, 0, 5)) return -2;
        if (guards.size() == 5) return -4;
        Guard g = made(kind);
        g.number = guards.size();
        g.home = cell;
        g.way = wayLength / 10;
        g.length = wayLength % 10;
        g.more = more;
        guards.add(g);
        return g.number;
    }

    boolean noGuard(int g) {
        return !in(g, 0, guards.size() - 1);
    }

    int set(int g, int what, int v) {
        if (noGuard(g)) return -5;
        if (what == 0 && in(v, 0, 23)) {
            int was = guards.get(g).ahead;
            guards.get(g).ahead = v;
            return was;
        }
        if (what == 1 && in(v, 0, 5)) {
            int was = guards.get(g).length;
            guards.get(g).length = v;
            return was;
        }
        return -7;
    }

    int guardTold(int g, int what) {
        if (noGuard(g)) return -5;
        if (!in(what, 0, 5)) return -7;
        Guard x = guards.get(g);
        return new int[] {x.ahead, x.length, x.kind(), x.home, x.way, x.more}[what];
    }

    int own(Guard g, int t) {
        return (t + g.ahead) % 24;
    }

    /** Where he stands and the way his walk turns him, step by step. */
    int[] walked(Guard g, int t) {
        List<Integer> beat = new ArrayList<>();
        beat.add(g.home);
        while (beat.size() <= g.length) {
            int next = beside(beat.get(beat.size() - 1), g.way);
            if (next < 0 || wall(next)) break;
            beat.add(next);
        }
        int b = beat.size() - 1;
        if (b == 0) return new int[] {g.home, g.way};
        int place = 0, by = 1;
        for (int i = 0; i < g.steps(own(g, t)); i++) {
            place += by;
            if (place == b) by = -1;
            if (place == 0) by = 1;
        }
        return new int[] {beat.get(place), by == 1 ? g.way : (g.way + 2) % 4};
    }

    int stands(Guard g, int t) {
        return walked(g, t)[0];
    }

    int turned(Guard g, int t) {
        return g.turned(own(g, t), walked(g, t)[1]);
    }

    int at(int g, int t, int what) {
        if (noGuard(g)) return -5;
        if (!in(t, 0, 23) || !in(what, 0, 2)) return -7;
        Guard x = guards.get(g);
        return what == 0 ? stands(x, t) : what == 1 ? turned(x, t) : x.looks(own(x, t)) ? 1 : 0;
    }

    // ---- what is seen

    Set<Integer> sight(Guard g, int t) {
        Set<Integer> seen = new TreeSet<>();
        if (!g.looks(own(g, t))) return seen;
        int c = stands(g, t);
        int reach = says(0, 0, lit(c), g.more, t, g.number, c);
        int way = left(turned(g, t));
        for (int far = 1; far <= reach; far++) {
            c = beside(c, way);
            if (c < 0 || wall(c)) break;
            if (says(1, far, lit(c), g.more, t, g.number, c) == 1) seen.add(c);
            if (layers.get(2).contains(c)) way = left(way);
        }
        return seen;
    }

    boolean[][] seen(int bribed) {
        boolean[][] seen = new boolean[24][36];
        for (Guard g : guards) {
            if ((bribed >> g.number & 1) == 1) continue;
            for (int t = 0; t < 24; t++) {
                for (int c : sight(g, t)) seen[t][c] = true;
                seen[t][stands(g, t)] = true;
            }
        }
        return seen;
    }

    long sees(int g, int t) {
        return noGuard(g) || !in(t, 0, 23) ? NO : bits(sight(guards.get(g), t));
    }

    long watched(int t) {
        if (!in(t, 0, 23)) return NO;
        Set<Integer> set = new TreeSet<>();
        for (int c = 0; c < 36; c++) if (seen(0)[t][c]) set.add(c);
        return bits(set);
    }

    int alone(int c) {
        if (!in(c, 0, 35)) return -5;
        boolean[][] seen = seen(0);
        int sum = 0;
        for (int t = 0; t < 24; t++) if (!seen[t][c]) sum += 1 << t;
        return sum;
    }

    static int gap(boolean[][] seen, int c) {
        int best = 0, run = 0;
        for (int t = 0; t < 48; t++) {
            run = seen[t % 24][c] ? 0 : run + 1;
            best = Math.max(best, Math.min(run, 24));
        }
        return best;
    }

    int unseen(int c) {
        return in(c, 0, 35) ? gap(seen(0), c) : -5;
    }

    int greatest() {
        boolean[][] seen = seen(0);
        int best = 0;
        for (int c = 0; c < 36; c++) if (!wall(c)) best = Math.max(best, gap(seen, c));
        return best;
    }

    int worst(int what) {
        if (!in(what, 0, 3)) return -2;
        boolean[][] seen = seen(0);
        int greatest = greatest(), first = -1, all = 0, worth = 0;
        for (int c = 35; c >= 0; c--) {
            if (wall(c)) continue;
            if (gap(seen, c) == greatest) first = c;
            if (gap(seen, c) == 24) all++;
            for (int t = 0; t < 24; t++) if (!seen[t][c]) worth += says(2, 0, lit(c), 0, t, 0, c);
        }
        return new int[] {greatest, first, all, worth}[what];
    }

    // ---- a thief

    boolean[][] could(int a, int t) {
        boolean[][] seen = seen(0);
        boolean[][] could = new boolean[25][36];
        could[0][a] = !wall(a) && !seen[t][a];
        for (int k = 1; k <= 24; k++) {
            for (int c = 0; c < 36; c++) {
                if (wall(c) || seen[(t + k) % 24][c]) continue;
                could[k][c] = could[k - 1][c];
                for (int w = 0; w < 4; w++) if (beside(c, w) >= 0 && could[k - 1][beside(c, w)]) could[k][c] = true;
            }
        }
        return could;
    }

    int soon(int a, int b, int t) {
        if (!in(a, 0, 35) || !in(b, 0, 35)) return -5;
        if (!in(t, 0, 23)) return -7;
        boolean[][] could = could(a, t);
        for (int k = 0; k <= 24; k++) if (could[k][b]) return k;
        return -1;
    }

    int path(int a, int b, int t, int k) {
        if (!in(a, 0, 35) || !in(b, 0, 35)) return -5;
        if (!in(t, 0, 23) || !in(k, 0, 24)) return -7;
        int soonest = soon(a, b, t);
        boolean[][] could = could(a, t);
        if (soonest < k) return -1;
        int c = b;
        for (int j = soonest - 1; j >= k; j--) {
            if (could[j][c]) continue;
            int from = -1;
            for (int w = 3; w >= 0; w--) if (beside(c, w) >= 0 && could[j][beside(c, w)]) from = beside(c, w);
            c = from;
        }
        return c;
    }

    long hides(int a, int t, int k) {
        if (!in(a, 0, 35) || !in(t, 0, 23) || !in(k, 0, 24)) return NO;
        Set<Integer> set = new HashSet<>();
        for (int c = 0; c < 36; c++) if (could(a, t)[k][c]) set.add(c);
        return bits(set);
    }

    int when(int a, int b) {
        if (!in(a, 0, 35) || !in(b, 0, 35)) return -5;
        int sum = 0;
        for (int t = 0; t < 24; t++) if (soon(a, b, t) >= 0) sum += 1 << t;
        return sum;
    }

    int more(int a, int b, int what) {
        if (!in(a, 0, 35) || !in(b, 0, 35)) return -5;
        if (!in(what, 0, 3)) return -7;
        int least = Integer.bitCount(when(a, b)), best = -1;
        Set<Integer> layer = layers.get(what % 2 == 0 ? 1 : 2);
        for (int c = 0; c < 36; c++) {
            if (wall(c) || layer.contains(c)) continue;
            layer.add(c);
            int then = Integer.bitCount(when(a, b));
            layer.remove(c);
            if (then < least) {
                least = then;
                best = c;
            }
        }
        return what < 2 ? best : least;
    }

    // ---- shifts, bribes

    int shift(int g, int what) {
        if (noGuard(g)) return -5;
        if (!in(what, 0, 1)) return -7;
        int was = guards.get(g).ahead, best = 0, least = 99;
        for (int v = 0; v < 24; v++) {
            guards.get(g).ahead = v;
            if (greatest() < least) {
                least = greatest();
                best = v;
            }
        }
        guards.get(g).ahead = was;
        return what == 0 ? best : least;
    }

    boolean itHolds(long set, int k, int bribed) {
        boolean[][] seen = seen(bribed);
        for (int c : setOf(set)) if (!wall(c) && gap(seen, c) > k) return false;
        return true;
    }

    int holds(long set, int k) {
        if (!cells(set)) return -5;
        if (!in(k, 0, 24)) return -7;
        return itHolds(set, k, 0) ? 1 : 0;
    }

    int bribes(long set, int k) {
        if (!cells(set) || !in(k, 0, 24)) return 0;
        int sets = 0;
        for (int m = 0; m < Math.pow(2, guards.size()); m++) if (itHolds(set, k, m)) sets |= 1 << m;
        return sets;
    }

    int fewest(long set, int k, int what) {
        if (!cells(set)) return -5;
        if (!in(k, 0, 24) || !in(what, 0, 1)) return -7;
        for (int number = 0; number <= guards.size(); number++) {
            for (int stay = 0; stay < 1 << guards.size(); stay++) {
                if (Integer.bitCount(stay) == number && itHolds(set, k, 31 - stay)) return what == 0 ? stay : number;
            }
        }
        return -1;
    }

    // ---- told seconds

    int judged(Object sheet, int c, int bribed) {
        boolean[][] seen = seen(bribed);
        for (int t = 0; t < 24; t++) {
            if (java.lang.reflect.Array.getInt(sheet, t) != (seen[t][c] ? 1 : 0)) return t;
        }
        return -1;
    }

    int refusal(int s) {
        if (!in(s, 0, 3)) return -2;
        if (sheets[s] == null) return -11;
        return java.lang.reflect.Array.getLength(sheets[s]) == 24 ? 0 : -2;
    }

    int judge(int s, int c) {
        if (refusal(s) != 0) return refusal(s);
        return in(c, 0, 35) ? judged(sheets[s], c, 0) : -5;
    }

    long which(int s) {
        if (refusal(s) != 0) return NO;
        Set<Integer> set = new HashSet<>();
        for (int c = 0; c < 36; c++) if (judge(s, c) == -1) set.add(c);
        return bits(set);
    }

    int laws(int s, int c) {
        if (judge(s, c) < -1) return judge(s, c);
        int was = law, sum = 0;
        for (law = 0; law < texts.size(); law++) if (judge(s, c) == -1) sum += 1 << law;
        law = was;
        return sum;
    }

    int gone(int s, int c) {
        if (judge(s, c) < -1) return 0;
        int sum = 0;
        for (int m = 0; m < 1 << guards.size(); m++) if (judged(sheets[s], c, m) == -1) sum += 1 << m;
        return sum;
    }

    int film(int s, int c) {
        if (!in(s, 0, 3)) return -2;
        if (!in(c, 0, 35)) return -5;
        int[] row = new int[24];
        boolean[][] seen = seen(0);
        for (int t = 0; t < 24; t++) row[t] = seen[t][c] ? 1 : 0;
        sheets[s] = row;
        return 24;
    }

    // ---- rounds by lot

    int byLot(int seed) {
        int[] was = guards.stream().mapToInt(g -> g.ahead).toArray();
        java.math.BigInteger lot = java.math.BigInteger.valueOf(seed).add(java.math.BigInteger.ONE);
        java.math.BigInteger factor = java.math.BigInteger.valueOf(48271);
        for (Guard g : guards) {
            lot = lot.multiply(factor).mod(java.math.BigInteger.valueOf(2147483647));
            g.ahead = lot.mod(java.math.BigInteger.valueOf(24)).intValue();
        }
        int greatest = greatest();
        for (Guard g : guards) g.ahead = was[g.number];
        return greatest;
    }

    int drawn(int seed) {
        return in(seed, 0, 99999) ? byLot(seed) : -2;
    }

    long mean(int seed, int seeds, int part) {
        if (!in(seed, 0, 99999) || !in(seeds, 1, 12) || !in(part, 0, 1)) return NO;
        int above = 0, below = seeds;
        for (int i = 0; i < seeds; i++) above += byLot(seed + i);
        int a = above, b = below;
        while (b != 0) {
            int c = a % b;
            a = b;
            b = c;
        }
        return part == 0 ? above / a : below / a;
    }

    int image() {
        imageLayers = List.of(new TreeSet<>(layers.get(0)), new TreeSet<>(layers.get(1)), new TreeSet<>(layers.get(2)));
        imageAheads = guards.stream().mapToInt(g -> g.ahead).toArray();
        imageLengths = guards.stream().mapToInt(g -> g.length).toArray();
        imageLaw = law;
        return guards.size();
    }

    int back() {
        if (imageLayers == null) return -3;
        for (int i = 0; i < 3; i++) {
            layers.get(i).clear();
            layers.get(i).addAll(imageLayers.get(i));
        }
        while (guards.size() > imageAheads.length) guards.remove(guards.size() - 1);
        for (Guard g : guards) {
            g.ahead = imageAheads[g.number];
            g.length = imageLengths[g.number];
        }
        law = imageLaw;
        return guards.size();
    }

    // ---- the host

    int sheet(int s, int sort, int n) {
        if (!in(s, 0, 3) || !in(sort, -1, 2)) return -2;
        if (sort == -1) {
            sheets[s] = null;
            return 1;
        }
        if (n > 40) return -2;
        try {
            sheets[s] = sort == 0 ? new byte[n] : sort == 1 ? new short[n] : new int[n];
        } catch (NegativeArraySizeException e) {
            return -14;
        }
        return 1;
    }

    int cell(int s, int i, int v) {
        if (!in(s, 0, 3)) return -2;
        try {
            if (sheets[s] == null) throw new NullPointerException();
            if (sheets[s] instanceof byte[]) ((byte[]) sheets[s])[i] = (byte) v;
            if (sheets[s] instanceof short[]) ((short[]) sheets[s])[i] = (short) v;
            if (sheets[s] instanceof int[]) ((int[]) sheets[s])[i] = v;
        } catch (NullPointerException e) {
            return -11;
        } catch (ArrayIndexOutOfBoundsException e) {
            return -12;
        }
        return 1;
    }

    int copy(int s, int i, int other, int j, int n) {
        if (!in(s, 0, 3) || !in(other, 0, 3)) return -2;
        try {
            System.arraycopy(sheets[s], i, sheets[other], j, n);
        } catch (NullPointerException e) {
            return -11;
        } catch (ArrayStoreException e) {
            return -13;
        } catch (IndexOutOfBoundsException e) {
            return -12;
        }
        return n;
    }

    int guardsBy(int s, int sort, int at, int n) {
        if (!in(s, 0, 3) || !in(sort, 0, 2) || !in(n, 0, 5)) return -2;
        if (sheets[s] == null) return -11;
        int came = 0;
        try {
            Object row = (sort == 0 ? byte[].class : sort == 1 ? short[].class : int[].class).cast(sheets[s]);
            for (int i = 0; i < n; i++) {
                int[] four = new int[4];
                for (int j = 0; j < 4; j++) four[j] = java.lang.reflect.Array.getInt(row, at + 4 * i + j);
                if (guard(four[0], four[1], four[2], four[3]) >= 0) came++;
            }
        } catch (ClassCastException e) {
            return -13;
        } catch (ArrayIndexOutOfBoundsException e) {
            return -12;
        }
        return came;
    }

    int taken(int i, int kind) {
        if (!in(kind, 0, 6)) return -2;
        if (!in(i, 0, 40)) return -12;
        Object lies = i >= 36 && i - 36 < guards.size() ? guards.get(i - 36) : null;
        if (i < 36) {
            int sum = (wall(i) ? 1 : 0) + (lit(i) == 1 ? 2 : 0) + (layers.get(2).contains(i) ? 4 : 0);
            lies = sum == 0 ? null : (Integer) sum;
        }
        if (lies == null) return -11;
        try {
            return kind == 6 ? (Integer) lies : ((Guard) CLASSES[kind].cast(lies)).number;
        } catch (ClassCastException e) {
            return -13;
        }
    }
}
