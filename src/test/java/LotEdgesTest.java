import java.math.BigInteger;
import java.util.ArrayList;
import java.util.List;

/** The boundaries of promises 33 to 36, and of the terms that they use (DRAWN, LOTS, AN IMAGE). */
public final class LotEdgesTest {
    private static final List<String> NEW = Edges.NEW, RICH = Edges.RICH, FULL = Edges.FULL, WALLED = Edges.WALLED;
    private static final int LAST_SEED = 99999;

    public static void main(String[] args) {
        Edges e = new Edges("LotEdgesTest");
        drawnRefused(e);
        drawn(e);
        lots(e);
        meanRefused(e);
        mean(e);
        lowestTerms(e);
        image(e);
        imageKeeps(e);
        imageStays(e);
        back(e);
        guardsSince(e);
        e.end();
    }

    /** One cell that is no wall, 2; guards in the wall at 8 look at it from their second MORE on. */
    private static List<String> pacers(int... mores) {
        List<String> story = new ArrayList<>(List.of("lay(0, ALL-{2})"));
        for (int more : mores) story.add("guard(5, 8, 30, " + more + ")");
        return story;
    }

    private static void drawnRefused(Edges e) {
        e.refused("33: BAD", RICH, "drawn(-1) -> BAD", "drawn(100000) -> BAD", "drawn(MIN) -> BAD", "drawn(MAX) -> BAD");
        e.refused("33: BAD, without GUARDS", NEW, "drawn(-1) -> BAD", "drawn(100000) -> BAD");
        e.changesNothing("33: what is asked changes nothing", Edges.with(pacers(9, 9), "set(0, 0, 5)"), "drawn(0) -> 0", "drawn(99999) -> " + byHand(LAST_SEED, 9, 9));
        e.changesNothing("33: what is asked changes nothing", RICH, "drawn(7) -> 24");
    }

    /** A LOT, by arithmetic that never wraps. */
    private static int[] aheads(int seed, int guards) {
        BigInteger lot = BigInteger.valueOf(seed + 1L), modulus = BigInteger.valueOf(2147483647L);
        int[] aheads = new int[guards];
        for (int g = 0; g < guards; g++) {
            lot = lot.multiply(BigInteger.valueOf(48271)).mod(modulus);
            aheads[g] = lot.mod(BigInteger.valueOf(24)).intValue();
        }
        return aheads;
    }

    private static int byHand(int seed, int... mores) {
        List<String> story = pacers(mores);
        int[] aheads = aheads(seed, mores.length);
        for (int g = 0; g < mores.length; g++) story.add("set(" + g + ", 0, " + aheads[g] + ")");
        return (int) new Called(story).call("worst(0)");
    }

    private static void drawn(Edges e) {
        e.answers("33: no GUARDS", NEW, "drawn(0) -> 24", "drawn(99999) -> 24");
        e.answers("33: of the first, the last CELL", List.of("lay(0, ALL-{0})"), "drawn(0) -> 24", "mean(0, 3, 0) -> 24", "lay(0, ALL-{35}) -> ALL-{0}", "drawn(0) -> 24", "mean(0, 3, 0) -> 24");
        e.answers("33: GAPS of no CELLS", Edges.with(WALLED, "guard(5, 8, 30, 7)"), "drawn(0) -> 0", "drawn(99999) -> 0");
        e.answers("33: one GUARD's GAP is the same by each", pacers(7), "drawn(0) -> 7", "drawn(1) -> 7", "drawn(99999) -> 7");
        for (int seed : new int[] {0, 1, 2, 3, 44487, 44488, 44489, 50000, 88977, 88978, 99998, LAST_SEED}) {
            e.answers("33: SEED 0 .. 99999", pacers(9, 9), "drawn(" + seed + ") -> " + byHand(seed, 9, 9));
            e.answers("33: SEED 0 .. 99999, five GUARDS", pacers(20, 22, 21, 22, 20), "drawn(" + seed + ") -> " + byHand(seed, 20, 22, 21, 22, 20));
        }
        e.answers("33: AHEAD as it is does not matter", Edges.with(pacers(9, 9), "set(0, 0, 3)", "set(1, 0, 17)"), "drawn(0) -> 0", "guardTold(0, 0) -> 3", "guardTold(1, 0) -> 17");
    }

    /** Guards of whom the law has one alone look, at one second alone: his lot shows. */
    private static void lots(Edges e) {
        // (0 + 1) * 48271 = 48271, modulo 24: 7; 48271 * 48271 - 2147483647 = 182605794, modulo 24: 18
        List<String> two = pacers(9, 9);
        e.answers("33: LOTS: the first of SEED 0: AHEAD 7", Edges.with(two, "says(reach 1;sees number=0 and second=2;worth 1;)", "force(1)"), "drawn(0) -> 23");
        e.answers("33: LOTS: the first of SEED 0: not 6", Edges.with(two, "says(reach 1;sees number=0 and second=1;worth 1;)", "force(1)"), "drawn(0) -> 24");
        e.answers("33: LOTS: the first of SEED 0: not above", Edges.with(two, "says(reach 1;sees number=0 and second=16;worth 1;)", "force(1)"), "drawn(0) -> 23");
        e.answers("33: LOTS: the first of SEED 0: not above", Edges.with(two, "says(reach 1;sees number=0 and second=17;worth 1;)", "force(1)"), "drawn(0) -> 24");
        e.answers("33: LOTS: the further one of SEED 0: AHEAD 18", Edges.with(two, "says(reach 1;sees number=1 and second=15;worth 1;)", "force(1)"), "drawn(0) -> 23");
        e.answers("33: LOTS: the further one of SEED 0: not 17", Edges.with(two, "says(reach 1;sees number=1 and second=14;worth 1;)", "force(1)"), "drawn(0) -> 24");
        e.answers("33: LOTS: the further one of SEED 0: not above", Edges.with(two, "says(reach 1;sees number=1 and second=5;worth 1;)", "force(1)"), "drawn(0) -> 23");
        e.answers("33: LOTS: the further one of SEED 0: not above", Edges.with(two, "says(reach 1;sees number=1 and second=6;worth 1;)", "force(1)"), "drawn(0) -> 24");
        for (int seed : new int[] {0, 44487, 44488, 77777, LAST_SEED}) {
            int[] aheads = aheads(seed, 5);
            for (int g = 0; g < 5; g++) {
                String at = "says(reach 1;sees number=" + g + " and second=" + (9 - aheads[g] + 24) % 24 + ";worth 1;)", ahead = "says(reach 1;sees number=" + g + " and second=" + (8 - aheads[g] + 24) % 24 + ";worth 1;)";
                e.answers("33: LOTS of SEED " + seed + ", GUARD " + g, Edges.with(pacers(9, 9, 9, 9, 9), at, "force(1)"), "drawn(" + seed + ") -> 23");
                e.answers("33: LOTS of SEED " + seed + ", GUARD " + g, Edges.with(pacers(9, 9, 9, 9, 9), ahead, "force(1)"), "drawn(" + seed + ") -> 24");
            }
        }
    }

    private static void meanRefused(Edges e) {
        for (int part = 0; part < 2; part++) {
            e.refused("34: NO: SEED", RICH, "mean(-1, 1, " + part + ") -> NO", "mean(100000, 1, " + part + ") -> NO", "mean(MIN, 1, " + part + ") -> NO", "mean(MAX, 12, " + part + ") -> NO");
            e.refused("34: NO: so many", RICH, "mean(0, 0, " + part + ") -> NO", "mean(0, 13, " + part + ") -> NO", "mean(0, -1, " + part + ") -> NO", "mean(0, MIN, " + part + ") -> NO",
                "mean(0, MAX, " + part + ") -> NO");
        }
        e.refused("34: NO: part", RICH, "mean(0, 1, -1) -> NO", "mean(0, 1, 2) -> NO", "mean(0, 1, MIN) -> NO", "mean(0, 1, MAX) -> NO");
        e.refused("34: NO: all", RICH, "mean(100000, 13, 2) -> NO", "mean(-1, 0, -1) -> NO");
        e.changesNothing("34: what is asked changes nothing", Edges.with(pacers(9, 9), "set(0, 0, 5)"), "mean(0, 1, 0) -> 0", "mean(99999, 12, 1) -> " + byHandMean(LAST_SEED, 12)[1]);
    }

    /** Above and below the line. */
    private static int[] byHandMean(int seed, int seeds) {
        int sum = 0;
        for (int i = 0; i < seeds; i++) sum += byHand(seed + i, 9, 9);
        int common = BigInteger.valueOf(sum).gcd(BigInteger.valueOf(seeds)).intValue();
        return new int[] {sum / common, seeds / common};
    }

    private static void mean(Edges e) {
        for (int seed : new int[] {0, 1, 50, LAST_SEED - 11, LAST_SEED - 1, LAST_SEED}) {
            for (int seeds : new int[] {1, 2, 3, 4, 6, 8, 11, 12}) {
                int[] due = byHandMean(seed, seeds);
                e.answers("34: so many (1 .. 12) seeds, SEED and each 1 more (above 99999, too)", pacers(9, 9), "mean(" + seed + ", " + seeds + ", 0) -> " + due[0],
                    "mean(" + seed + ", " + seeds + ", 1) -> " + due[1]);
            }
        }
    }

    private static void lowestTerms(Edges e) {
        for (int seeds = 1; seeds < 13; seeds++) {
            e.answers("34: in lowest terms: 24", NEW, "mean(0, " + seeds + ", 0) -> 24", "mean(0, " + seeds + ", 1) -> 1");
            e.answers("34: in lowest terms: 7", pacers(7), "mean(99999, " + seeds + ", 0) -> 7", "mean(99999, " + seeds + ", 1) -> 1");
            e.answers("34: in lowest terms: 0 above, 1 below", pacers(0), "mean(5, " + seeds + ", 0) -> 0", "mean(5, " + seeds + ", 1) -> 1");
        }
    }

    private static void image(Edges e) {
        e.answers("35: how many GUARDS", NEW, "image() -> 0", "guard(0, 0, 0, 0) -> 0", "image() -> 1", "guard(0, 0, 0, 0) -> 1", "guard(0, 0, 0, 0) -> 2", "image() -> 3");
        e.answers("35: how many GUARDS: 5", FULL, "image() -> 5", "back() -> 5");
        e.answers("35: likewise", RICH, "image() -> 3", "image() -> 3", "back() -> 3");
        e.same("35: AN IMAGE changes nothing else", Edges.with(RICH, "image()", "back()"), Edges.with(RICH, "image()"));
        e.unlike("35: AN IMAGE in place of the last one", Edges.with(RICH, "image()"), RICH);
    }

    private static void imageKeeps(Edges e) {
        List<String> kept = Edges.with(RICH, "image()");
        e.same("36: WALLS", Edges.with(kept, "lay(0, {2 3})", "put(5, 0, 1)", "back()"), kept);
        e.same("36: LAMPS", Edges.with(kept, "lay(1, ALL)", "put(5, 1, 0)", "back()"), kept);
        e.same("36: MIRRORS", Edges.with(kept, "lay(2, 0)", "put(5, 2, 1)", "back()"), kept);
        e.same("36: AHEAD", Edges.with(kept, "set(0, 0, 0)", "set(1, 0, 23)", "set(2, 0, 9)", "back()"), kept);
        e.same("36: LONG", Edges.with(kept, "set(0, 1, 0)", "set(1, 1, 5)", "set(2, 1, 1)", "back()"), kept);
        e.same("36: how many GUARDS there are", Edges.with(kept, "guard(0, 2, 11, 3)", "guard(5, 3, 12, 9)", "back()"), kept);
        e.same("36: THE LAW", Edges.with(kept, "force(2)", "back()"), kept);
        e.same("36: all of it", Edges.with(kept, "lay(0, ALL)", "lay(1, 0)", "lay(2, ALL)", "set(0, 0, 1)", "set(2, 1, 0)", "guard(3, 0, 0, 0)", "force(0)", "watched(0)", "back()"), kept);
        e.same("36: what is seen follows", Edges.with(kept, "lay(0, ALL)", "watched(0)", "back()"), kept);
        List<String> full = Edges.with(FULL, "image()");
        e.same("36: AHEAD, LONG of all five", Edges.with(full, "set(0, 0, 1)", "set(1, 0, 2)", "set(2, 0, 3)", "set(3, 0, 4)", "set(4, 0, 5)", "set(0, 1, 5)", "set(1, 1, 5)", "set(2, 1, 5)",
            "set(3, 1, 5)", "set(4, 1, 4)", "force(0)", "back()"), full);
    }

    private static void imageStays(Edges e) {
        List<String> kept = Edges.with(RICH, "image()");
        e.same("36: THE TAPE stays as it is", Edges.with(kept, "feed(1, 59, 0, 0, 0, 0)", "back()"), Edges.with(kept, "feed(1, 59, 0, 0, 0, 0)"));
        e.same("36: TEXTS stay", Edges.with(kept, "text()", "force(3)", "back()"), Edges.with(kept, "text()"));
        e.same("36: SHEETS stay", Edges.with(kept, "sheet(0, 0, 3)", "film(2, 14)", "sheet(3, -1, 0)", "cell(1, 1, 2)", "back()"), Edges.with(kept, "sheet(0, 0, 3)", "film(2, 14)", "sheet(3, -1, 0)", "cell(1, 1, 2)"));
        e.same("36: AN IMAGE stays", Edges.with(kept, "back()"), kept);
        e.same("36: AN IMAGE is not changed by what comes", Edges.with(kept, "lay(0, ALL)", "set(0, 0, 1)", "back()", "lay(0, 0)", "set(0, 0, 2)", "force(0)", "back()"), kept);
        e.answers("36: again and again", Edges.with(RICH, "image()"), "back() -> 3", "guard(0, 0, 0, 0) -> 3", "back() -> 3", "back() -> 3", "count(0) -> 3");
        e.answers("36: the later IMAGE alone", RICH, "image() -> 3", "lay(0, {5}) -> {9 16 33}", "set(0, 0, 11) -> 5", "force(2) -> 1", "image() -> 3", "lay(0, 0) -> {5}", "set(0, 0, 0) -> 11", "force(0) -> 2",
            "back() -> 3", "laid(0) -> {5}", "guardTold(0, 0) -> 11", "count(5) -> 2");
    }

    private static void back(Edges e) {
        e.refused("36: STATE: there is none", NEW, "back() -> STATE");
        List<String> none = Edges.with(NEW, "lay(0, {3})", "lay(1, {4})", "lay(2, {5})", "says(reach 1;sees 1;worth 1;)", "force(1)", "tape(reach)", "film(0, 3)");
        e.refused("36: STATE: there is none, though there are things", none, "back() -> STATE");
        e.answers("36: STATE: there is none, though there are GUARDS", List.of("guard(0, 0, 15, 0)", "set(0, 0, 9)"), "back() -> STATE", "count(0) -> 1", "guardTold(0, 0) -> 9", "guardTold(0, 1) -> 5",
            "back() -> STATE", "image() -> 1", "back() -> 1");
        e.answers("36: of a new one", List.of("image()", "lay(0, ALL)", "lay(1, ALL)", "lay(2, ALL)", "guard(0, 0, 0, 0)"), "back() -> 0", "laid(0) -> 0", "laid(1) -> 0", "laid(2) -> 0", "count(0) -> 0");
    }

    private static void guardsSince(Edges e) {
        List<String> since = Edges.with(NEW, "guard(0, 14, 10, 0)", "image()", "guard(1, 20, 10, 3)", "guard(3, 0, 22, 4)", "set(1, 0, 7)", "set(1, 1, 5)", "set(2, 0, 8)");
        e.answers("36: GUARDS that came since are none", since, "back() -> 1", "count(0) -> 1", "guardTold(1, 0) -> -5", "guardTold(2, 0) -> -5", "at(1, 0, 0) -> -5", "sees(1, 0) -> NO", "set(1, 0, 0) -> -5",
            "shift(1, 0) -> -5", "taken(37, 0) -> -11", "taken(38, 6) -> -11", "watched(0) -> {14 20}", "bribes(0, 0) -> 3");
        e.answers("36: there is room again", Edges.with(FULL, "back()"), "count(0) -> 0", "guard(0, 0, 0, 0) -> 0", "guard(0, 0, 0, 0) -> 1", "guard(0, 0, 0, 0) -> 2", "guard(0, 0, 0, 0) -> 3", "guard(0, 0, 0, 0) -> 4",
            "guard(0, 0, 0, 0) -> FULL");
        e.answers("36: who comes then has AHEAD 0 and all as told", Edges.with(since, "back()"), "guard(4, 9, 31, 6) -> 1", "guardTold(1, 0) -> 0", "guardTold(1, 1) -> 1", "guardTold(1, 2) -> 4", "guardTold(1, 3) -> 9",
            "guardTold(1, 4) -> 3", "guardTold(1, 5) -> 6", "guard(0, 0, 0, 0) -> 2", "guardTold(2, 0) -> 0");
        e.answers("36: none of those who stayed is changed", Edges.with(since, "back()"), "guardTold(0, 2) -> 0", "guardTold(0, 3) -> 14", "guardTold(0, 4) -> 1", "guardTold(0, 5) -> 0");
        e.same("36: as if they never came", Edges.with(since, "back()"), Edges.with(NEW, "guard(0, 14, 10, 0)", "image()"));
    }
}
