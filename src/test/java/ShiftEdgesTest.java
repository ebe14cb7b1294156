import java.util.ArrayList;
import java.util.List;

/** The boundaries of promises 24 to 27, and of the terms that they use (GAPS, BRIBED, IT HOLDS). */
public final class ShiftEdgesTest {
    private static final List<String> NEW = Edges.NEW, RICH = Edges.RICH, FULL = Edges.FULL, WALLED = Edges.WALLED;

    public static void main(String[] args) {
        Edges e = new Edges("ShiftEdgesTest");
        shiftRefused(e);
        shift(e);
        holdsRefused(e);
        holds(e);
        bribesRefused(e);
        bribes(e);
        fewestRefused(e);
        fewest(e);
        fewestOfNone(e);
        e.end();
    }

    /** One cell that is no wall, 2; guards in the wall at 8 look at it from their second MORE on. */
    private static List<String> pacers(int... mores) {
        List<String> story = new ArrayList<>(List.of("lay(0, ALL-{2})"));
        for (int more : mores) story.add("guard(5, 8, 30, " + more + ")");
        return story;
    }

    /** Guards who see nothing and stand in 0, 7, 14, .. */
    private static List<String> posts(int number) {
        List<String> story = new ArrayList<>(List.of("says(reach 0 ; sees 0 ; worth 1 ;)", "force(1)"));
        for (int g = 0; g < number; g++) story.add("guard(1, " + 7 * g + ", 0, 0)");
        return story;
    }

    private static void shiftRefused(Edges e) {
        for (int what = 0; what < 2; what++) {
            e.refused("24: -5: no such GUARD", RICH, "shift(-1, " + what + ") -> -5", "shift(3, " + what + ") -> -5", "shift(MIN, " + what + ") -> -5", "shift(MAX, " + what + ") -> -5");
            e.refused("24: -5: no such GUARD, of none", NEW, "shift(0, " + what + ") -> -5");
            e.refused("24: -5: no such GUARD, of five", FULL, "shift(5, " + what + ") -> -5");
        }
        e.refused("24: -7: what", RICH, "shift(0, -1) -> -7", "shift(2, 2) -> -7", "shift(0, MIN) -> -7", "shift(0, MAX) -> -7");
        e.refused("24: of several the first: no GUARD, what", RICH, "shift(3, 2) -> -5", "shift(-1, -1) -> -5");
        e.changesNothing("24: what is asked changes nothing", Edges.with(pacers(9, 9), "set(0, 0, 5)"), "shift(1, 0) -> 14", "shift(1, 1) -> 0", "shift(0, 0) -> 9");
        e.changesNothing("24: what is asked changes nothing", RICH, "shift(0, 0) -> 0", "shift(2, 1) -> 24");
    }

    private static void shift(Edges e) {
        e.answers("24: of like ones the first", pacers(9, 9), "shift(0, 0) -> 9", "shift(0, 1) -> 0", "shift(1, 0) -> 9", "shift(1, 1) -> 0");
        e.answers("24: of like ones the first: 0, though it is another now", Edges.with(pacers(7), "set(0, 0, 12)"), "shift(0, 0) -> 0", "shift(0, 1) -> 7", "guardTold(0, 0) -> 12");
        e.answers("24: the one that it is now", Edges.with(pacers(9, 9), "set(1, 0, 9)"), "shift(1, 0) -> 9", "shift(1, 1) -> 0", "shift(0, 0) -> 0", "shift(0, 1) -> 0");
        List<String> last = List.of("lay(0, ALL-{2})", "says(reach 1;sees second=0 or second=10 or second=17;worth 1;)", "force(1)", "guard(5, 8, 30, 9)");
        e.answers("24: 23, the last", last, "shift(0, 0) -> 23", "shift(0, 1) -> 9");
        e.answers("24: round and round", Edges.with(pacers(9, 9), "set(0, 0, 20)"), "shift(1, 0) -> 5", "shift(1, 1) -> 0");
        e.answers("24: no AHEAD helps", List.of("guard(0, 0, 15, 0)"), "shift(0, 0) -> 0", "shift(0, 1) -> 24");
        e.answers("24: GAPS of no CELLS", Edges.with(WALLED, "guard(0, 0, 15, 0)"), "shift(0, 0) -> 0", "shift(0, 1) -> 0");
        e.answers("24: GAPS: of all CELLS that are no WALLS", Edges.with(pacers(9, 9), "put(3, 0, 0)"), "shift(0, 0) -> 0", "shift(0, 1) -> 24");
        e.answers("24: the last of five", pacers(9, 9, 9, 9, 9), "shift(4, 0) -> 9", "shift(4, 1) -> 0", "shift(0, 0) -> 9");
    }

    private static void holdsRefused(Edges e) {
        e.refused("25: -5: no such CELLS", RICH, "holds({36}, 5) -> -5", "holds({0 36}, 24) -> -5", "holds({62}, 5) -> -5", "holds({63}, 5) -> -5", "holds(-1, 0) -> -5");
        e.refused("25: -7: k", RICH, "holds({14}, -1) -> -7", "holds({14}, 25) -> -7", "holds(0, 25) -> -7", "holds(ALL, MIN) -> -7", "holds(0, MAX) -> -7");
        e.refused("25: of several the first: no CELLS, k", RICH, "holds({36}, 25) -> -5", "holds(-1, -1) -> -5");
        e.changesNothing("25: what is asked changes nothing", pacers(9, 9), "holds({2}, 9) -> 1", "holds({2}, 8) -> 0");
    }

    private static void holds(Edges e) {
        e.answers("25: no GAP is above k", pacers(9), "holds({2}, 0) -> 0", "holds({2}, 8) -> 0", "holds({2}, 9) -> 1", "holds({2}, 10) -> 1", "holds({2}, 24) -> 1");
        e.answers("25: k 24: it always holds", NEW, "holds(ALL, 24) -> 1", "holds({0}, 24) -> 1", "holds({0}, 23) -> 0", "holds({35}, 23) -> 0");
        e.answers("25: k 0", List.of("guard(1, 14, 10, 0)"), "holds({14 20}, 0) -> 1", "holds({14 20 21}, 0) -> 0", "holds({14 20 21}, 23) -> 0");
        e.answers("25: no CELLS", NEW, "holds(0, 0) -> 1");
        e.answers("25: WALLS do not matter", List.of("lay(0, ALL-{35})"), "holds(ALL-{35}, 0) -> 1", "holds(ALL, 23) -> 0", "holds({35}, 23) -> 0", "holds({0}, 0) -> 1");
        e.answers("25: all WALLS", WALLED, "holds(ALL, 0) -> 1");
        e.answers("25: the first, the last CELL", List.of("guard(1, 0, 0, 0)", "guard(1, 35, 20, 0)"), "holds({0 35}, 0) -> 1", "holds({1}, 0) -> 0", "holds({34}, 0) -> 0");
        e.answers("25: round and round", Edges.with(pacers(9), "set(0, 0, 4)"), "holds({2}, 8) -> 0", "holds({2}, 9) -> 1");
    }

    private static void bribesRefused(Edges e) {
        e.changesNothing("26: 0: no such CELLS", RICH, "bribes({36}, 24) -> 0", "bribes({0 36}, 24) -> 0", "bribes({63}, 24) -> 0", "bribes(-1, 24) -> 0");
        e.changesNothing("26: 0: k", RICH, "bribes(0, -1) -> 0", "bribes(0, 25) -> 0", "bribes(0, MIN) -> 0", "bribes(0, MAX) -> 0");
        e.changesNothing("26: 0: both", RICH, "bribes({36}, 25) -> 0");
        e.changesNothing("26: what is asked changes nothing", pacers(9, 9), "bribes({2}, 9) -> 7", "bribes({2}, 8) -> 0", "bribes({2}, 24) -> 15");
    }

    private static void bribes(Edges e) {
        e.answers("26: none", NEW, "bribes({0}, 23) -> 0", "bribes(ALL, 0) -> 0");
        e.answers("26: no GUARDS: the empty set alone", NEW, "bribes({0}, 24) -> 1", "bribes(0, 0) -> 1");
        e.answers("26: sets: bits of GUARDS", posts(3), "bribes({0}, 0) -> {0 2 4 6}", "bribes({7}, 0) -> {0 1 4 5}", "bribes({14}, 0) -> {0 1 2 3}", "bribes({0 14}, 0) -> {0 2}",
            "bribes({0 7 14}, 23) -> 1", "bribes({1}, 24) -> 255", "bribes({1}, 23) -> 0");
        e.answers("26: number 0 .. 31", posts(5), "bribes(0, 0) -> -1", "bribes({28}, 0) -> 65535", "bribes({0 7 14 21 28}, 0) -> 1", "bribes({0}, 24) -> -1");
        e.answers("26: all of five, number 31, alone is missing", pacers(0, 0, 0, 0, 0), "bribes({2}, 0) -> 2147483647", "bribes({2}, 24) -> -1");
        e.answers("26: BRIBED GUARDS see nothing", pacers(0), "bribes({2}, 0) -> 1", "bribes({2}, 23) -> 1", "bribes({2}, 24) -> 3");
        e.answers("26: nothing is SEEN by their standing in it", posts(1), "bribes({0}, 0) -> 1", "bribes({0}, 24) -> 3");
        e.answers("26: the others keep their numbers", List.of("lay(0, ALL-{2})", "says(reach 1 ; sees number = 1 ; worth 1 ;)", "force(1)", "guard(1, 8, 30, 0)", "guard(1, 8, 30, 0)"), "bribes({2}, 0) -> 3");
        e.answers("26: IT HOLDS yet: exactly k", pacers(9, 5), "bribes({2}, 5) -> 3", "bribes({2}, 4) -> 0", "bribes({2}, 9) -> 7", "bribes({2}, 8) -> 3");
        e.answers("26: WALLS do not matter", Edges.with(pacers(9, 5), "put(35, 0, 1)"), "bribes({2 35}, 5) -> 3", "bribes({35}, 0) -> 15");
    }

    private static void fewestRefused(Edges e) {
        for (int what = 0; what < 2; what++) {
            String end = ", " + what + ") -> ";
            e.refused("27: -5: no such CELLS", RICH, "fewest({36}, 5" + end + "-5", "fewest({0 36}, 24" + end + "-5", "fewest({63}, 5" + end + "-5", "fewest(-1, 0" + end + "-5");
            e.refused("27: -7: k", RICH, "fewest({14}, -1" + end + "-7", "fewest({14}, 25" + end + "-7", "fewest(0, MIN" + end + "-7", "fewest(0, MAX" + end + "-7");
        }
        e.refused("27: -7: what", RICH, "fewest({14}, 24, -1) -> -7", "fewest({14}, 24, 2) -> -7", "fewest({14}, 24, MIN) -> -7", "fewest({14}, 24, MAX) -> -7");
        e.refused("27: -7: k and what", RICH, "fewest({14}, 25, 2) -> -7");
        e.refused("27: of several the first: no CELLS, k", RICH, "fewest({36}, 25, 0) -> -5", "fewest(-1, -1, 0) -> -5");
        e.refused("27: of several the first: no CELLS, what", RICH, "fewest({36}, 0, 2) -> -5", "fewest(-1, 0, -1) -> -5");
        e.refused("27: of several the first: all three", RICH, "fewest({36}, 25, 2) -> -5");
        e.refused("27: a -1 that is an answer comes behind the refusal of a number", NEW, "fewest({0}, -1, 0) -> -7", "fewest({0}, 23, 2) -> -7", "fewest({0 36}, 23, 0) -> -5");
        e.changesNothing("27: what is asked changes nothing", pacers(9, 9), "fewest({2}, 9, 0) -> 1", "fewest({2}, 9, 1) -> 1", "fewest({2}, 8, 0) -> -1");
    }

    private static void fewest(Edges e) {
        e.answers("27: none at all is enough", posts(3), "fewest(0, 0, 0) -> 0", "fewest(0, 0, 1) -> 0", "fewest(ALL, 24, 0) -> 0", "fewest(ALL, 24, 1) -> 0");
        e.answers("27: the one by whom it holds", posts(3), "fewest({0}, 0, 0) -> 1", "fewest({7}, 0, 0) -> 2", "fewest({14}, 0, 0) -> 4", "fewest({14}, 0, 1) -> 1");
        e.answers("27: two, three", posts(3), "fewest({0 14}, 0, 0) -> 5", "fewest({0 14}, 0, 1) -> 2", "fewest({0 7 14}, 23, 0) -> 7", "fewest({0 7 14}, 23, 1) -> 3");
        e.answers("27: all five", posts(5), "fewest({0 7 14 21 28}, 0, 0) -> 31", "fewest({0 7 14 21 28}, 0, 1) -> 5", "fewest({28}, 0, 0) -> 16", "fewest({28}, 0, 1) -> 1");
        e.answers("27: of like ones the least as bits", pacers(9, 9, 9), "fewest({2}, 9, 0) -> 1", "fewest({2}, 9, 1) -> 1");
        e.answers("27: fewest ahead of least: one, 4, ahead of two, 3", Edges.with(pacers(9, 9, 3), "set(1, 0, 9)"), "fewest({2}, 3, 0) -> 4", "fewest({2}, 3, 1) -> 1", "fewest({2}, 0, 0) -> 3", "fewest({2}, 0, 1) -> 2");
        e.answers("27: exactly k", pacers(9, 5), "fewest({2}, 4, 0) -> -1", "fewest({2}, 5, 0) -> 2", "fewest({2}, 8, 0) -> 2", "fewest({2}, 9, 0) -> 1", "fewest({2}, 23, 0) -> 1", "fewest({2}, 24, 0) -> 0");
        e.answers("27: WALLS do not matter", Edges.with(posts(2), "lay(0, {35 7})"), "fewest({35}, 0, 0) -> 0", "fewest({0 35}, 0, 0) -> 1", "fewest({7}, 0, 1) -> 0");
    }

    private static void fewestOfNone(Edges e) {
        e.answers("27: -1: none", posts(3), "fewest({1}, 23, 0) -> -1", "fewest({1}, 23, 1) -> -1", "fewest({0 1}, 0, 0) -> -1");
        e.answers("27: -1: none: no GUARDS", NEW, "fewest({0}, 23, 0) -> -1", "fewest({0}, 23, 1) -> -1", "fewest({0}, 24, 0) -> 0", "fewest({0}, 24, 1) -> 0");
        e.answers("27: -1: none: five GUARDS", posts(5), "fewest({1}, 23, 0) -> -1", "fewest({1}, 23, 1) -> -1");
        e.answers("27: all WALLS", WALLED, "fewest(ALL, 0, 0) -> 0", "fewest(ALL, 0, 1) -> 0");
    }
}
