import java.util.ArrayList;
import java.util.List;

/** The boundaries of promises 14 to 18, and of the terms that they use (HE SEES, SEEN, GAP, GAPS). */
public final class SeenEdgesTest {
    private static final List<String> NEW = Edges.NEW, RICH = Edges.RICH, FULL = Edges.FULL, WALLED = Edges.WALLED;
    /** As far as can be. */
    private static final List<String> FAR = List.of("says(reach 9 ; sees 1 ; worth 1 ;)", "force(1)");
    /** One cell that is no wall; PACING guards who stand in the wall at 8 look at it from their second MORE on. */
    private static final List<String> ONE_CELL = List.of("lay(0, ALL-{2})");

    public static void main(String[] args) {
        Edges e = new Edges("SeenEdgesTest");
        refused(e);
        reach(e);
        borders(e);
        walls(e);
        mirrors(e);
        looks(e);
        names(e);
        watched(e);
        follows(e);
        aloneAndUnseen(e);
        gaps(e);
        worst(e);
        worstOfNone(e);
        worth(e);
        e.end();
    }

    private static void refused(Edges e) {
        e.refused("14: NO: GUARD", RICH, "sees(-1, 0) -> NO", "sees(3, 0) -> NO", "sees(4, 23) -> NO", "sees(MIN, 0) -> NO", "sees(MAX, 0) -> NO");
        e.refused("14: NO: GUARD, of none", NEW, "sees(0, 0) -> NO");
        e.refused("14: NO: GUARD, of five", FULL, "sees(5, 0) -> NO");
        e.refused("14: NO: SECOND", RICH, "sees(0, -1) -> NO", "sees(2, 24) -> NO", "sees(0, MIN) -> NO", "sees(0, MAX) -> NO");
        e.refused("14: NO: both", RICH, "sees(3, 24) -> NO", "sees(-1, -1) -> NO");
        e.refused("15: NO: SECOND", RICH, "watched(-1) -> NO", "watched(24) -> NO", "watched(MIN) -> NO", "watched(MAX) -> NO");
        e.refused("16: -5: no such CELL", RICH, "alone(-1) -> -5", "alone(36) -> -5", "alone(MIN) -> -5", "alone(MAX) -> -5");
        e.refused("17: -5: no such CELL", RICH, "unseen(-1) -> -5", "unseen(36) -> -5", "unseen(MIN) -> -5", "unseen(MAX) -> -5");
        e.refused("18: BAD", RICH, "worst(-1) -> BAD", "worst(4) -> BAD", "worst(MIN) -> BAD", "worst(MAX) -> BAD");
        e.refused("18: BAD comes ahead of the -1 of no CELLS", WALLED, "worst(-1) -> BAD", "worst(4) -> BAD");
        e.changesNothing("14 .. 18: what is asked changes nothing", ONE_CELL, "watched(0) -> 0", "alone(2) -> 16777215", "unseen(2) -> 24", "worst(0) -> 24",
            "worst(1) -> 2", "worst(2) -> 1", "worst(3) -> 24");
        List<String> one = Edges.with(NEW, "guard(0, 14, 12, 0)");
        e.changesNothing("14 .. 18: what is asked changes nothing", one, "sees(0, 0) -> {20}", "watched(23) -> {9 15}", "alone(14) -> 15658734", "unseen(14) -> 3");
    }

    private static void sight(Edges e, String sentence, List<String> story, String cells) {
        e.answers("14: " + sentence, story, "sees(0, 0) -> " + cells);
    }

    private static List<String> far(String... calls) {
        return Edges.with(FAR, calls);
    }

    private static void reach(Edges e) {
        String[] seen = {"0", "{6}", "{6 12}", "{6 12 18}", "{6 12 18 24}", "{6 12 18 24 30}"};
        for (int reach = 0; reach < 6; reach++) {
            sight(e, "far being 1, 2, .. reach", List.of("says(reach " + reach + " ; sees 1 ; worth 1 ;)", "force(1)", "guard(1, 0, 10, 0)"), seen[reach]);
        }
        sight(e, "reach below 0", List.of("says(reach -1 ; sees 1 ; worth 1 ;)", "force(1)", "guard(1, 0, 10, 0)"), "0");
        for (int reach : new int[] {9, 10, 50, 9999}) {
            sight(e, "reach 9, or above", List.of("says(reach " + reach + " ; sees 1 ; worth 1 ;)", "force(1)", "guard(1, 5, 10, 0)", "put(35, 2, 1)"),
                "{11 17 23 29 35 34 33 32 31}");
        }
        sight(e, "reach 8", List.of("says(reach 8 ; sees 1 ; worth 1 ;)", "force(1)", "guard(1, 5, 10, 0)", "put(35, 2, 1)"), "{11 17 23 29 35 34 33 32}");
        sight(e, "sees 0", List.of("says(reach 9 ; sees 0 ; worth 1 ;)", "force(1)", "guard(1, 5, 10, 0)"), "0");
        sight(e, "sees below 0 is not 0", List.of("says(reach 9 ; sees -1 ; worth 1 ;)", "force(1)", "guard(1, 5, 10, 0)"), "{11 17 23 29 35}");
        sight(e, "far begins with 1", List.of("says(reach 9 ; sees far < 2 ; worth 1 ;)", "force(1)", "guard(1, 5, 10, 0)"), "{11}");
        sight(e, "far 9, the greatest", List.of("says(reach 9 ; sees far = 9 ; worth 1 ;)", "force(1)", "guard(1, 5, 10, 0)", "put(35, 2, 1)"), "{31}");
        sight(e, "not where he stands", List.of("says(reach 9 ; sees far = 0 or far = 1 ; worth 1 ;)", "force(1)", "guard(1, 14, 10, 0)"), "{20}");
    }

    private static void borders(Edges e) {
        int[][] ends = {{30, 10}, {33, 10}, {35, 10}, {0, 0}, {6, 0}, {30, 0}, {0, 30}, {3, 30}, {5, 30}, {5, 20}, {11, 20}, {35, 20}};
        for (int[] end : ends) {
            sight(e, "the next one would be outside at once", far("guard(1, " + end[0] + ", " + end[1] + ", 0)"), "0");
        }
        sight(e, "till outside, y more", far("guard(1, 1, 10, 0)"), "{7 13 19 25 31}");
        sight(e, "till outside, x less", far("guard(1, 11, 0, 0)"), "{10 9 8 7 6}");
        sight(e, "till outside, y less", far("guard(1, 34, 30, 0)"), "{28 22 16 10 4}");
        sight(e, "till outside, x more", far("guard(1, 24, 20, 0)"), "{25 26 27 28 29}");
        sight(e, "till outside, behind a MIRROR", far("guard(1, 0, 10, 0)", "put(30, 2, 1)"), "{6 12 18 24 30}");
    }

    private static void walls(Edges e) {
        sight(e, "till the next one would be a WALL", far("guard(1, 0, 10, 0)", "lay(0, {18})"), "{6 12}");
        sight(e, "a WALL at once", far("guard(1, 0, 10, 0)", "lay(0, {6})"), "0");
        sight(e, "a WALL at the last", far("guard(1, 0, 10, 0)", "lay(0, {30})"), "{6 12 18 24}");
        sight(e, "a WALL just behind the reach", List.of("guard(1, 0, 10, 0)", "lay(1, ALL)", "lay(0, {24})"), "{6 12 18}");
        sight(e, "a WALL with a LAMP, a MIRROR is one", far("guard(1, 0, 10, 0)", "lay(0, {18})", "lay(1, {18})", "lay(2, {18})"), "{6 12}");
        sight(e, "out of a WALL", far("guard(1, 0, 10, 0)", "lay(0, {0})"), "{6 12 18 24 30}");
        sight(e, "not back into the WALL where he stands", far("guard(1, 14, 10, 0)", "lay(0, {14})", "lay(2, {20 19 13})"), "{20 19 13}");
        sight(e, "a WALL behind a MIRROR", far("guard(1, 14, 10, 0)", "lay(0, {19})", "lay(2, {20})"), "{20}");
        sight(e, "a WALL ahead, behind a MIRROR, doesn't matter", far("guard(1, 14, 10, 0)", "lay(0, {26})", "lay(2, {20})"), "{20 19 18}");
    }

    private static void mirrors(Edges e) {
        String[] turned = {"{13 7 1}", "{20 19 18}", "{15 21 27 33}", "{8 9 10 11}"};
        int[] at = {13, 20, 15, 8};
        for (int way = 0; way < 4; way++) {
            sight(e, "behind a MIRROR: LEFT of the way it came, each", far("guard(1, 14, " + 10 * way + ", 0)", "put(" + at[way] + ", 2, 1)"), turned[way]);
        }
        sight(e, "where he stands, if mirrors bring it so", far("guard(1, 14, 10, 0)", "lay(2, {20 19 13})"), "{20 19 13 14 15 16 17}");
        sight(e, "where he stands, if mirrors bring it just so far", List.of("says(reach 4 ; sees 1 ; worth 1 ;)", "force(1)", "guard(1, 14, 10, 0)", "lay(2, {20 19 13})"), "{20 19 13 14}");
        sight(e, "not so far", List.of("says(reach 3 ; sees 1 ; worth 1 ;)", "force(1)", "guard(1, 14, 10, 0)", "lay(2, {20 19 13})"), "{20 19 13}");
        sight(e, "where he stands, if sees tells it", List.of("says(reach 9 ; sees far < 4 ; worth 1 ;)", "force(1)", "guard(1, 14, 10, 0)", "lay(2, {20 19 13})"), "{20 19 13}");
        sight(e, "round and round by four MIRRORS, to its reach", far("guard(1, 14, 10, 0)", "lay(2, {20 19 13 14})"), "{20 19 13 14}");
        sight(e, "a second time in the same CELL, farther", List.of("says(reach 9 ; sees far = 5 ; worth 1 ;)", "force(1)", "guard(1, 14, 10, 0)", "lay(2, {20 19 13 14})"), "{20}");
        sight(e, "two MIRRORS, one behind the other", far("guard(1, 14, 10, 0)", "lay(2, {20 19})"), "{20 19 13 7 1}");
        sight(e, "a MIRROR that isn't seen", List.of("says(reach 9 ; sees far = 2 ; worth 1 ;)", "force(1)", "guard(1, 14, 10, 0)", "lay(2, {20})"), "{19}");
        sight(e, "a MIRROR at the reach is seen", List.of("says(reach 1 ; sees 1 ; worth 1 ;)", "force(1)", "guard(1, 14, 10, 0)", "lay(2, {20})"), "{20}");
        sight(e, "a MIRROR where he stands: it came no way yet", far("guard(1, 14, 10, 0)", "lay(2, {14})"), "{20 26 32}");
        sight(e, "MIRRORS everywhere", far("guard(1, 14, 10, 0)", "lay(2, ALL)"), "{20 19 13 14}");
    }

    private static void looks(Edges e) {
        e.answers("14: HE SEES, if he LOOKS", List.of("guard(5, 14, 10, 9)"), "sees(0, 0) -> 0", "sees(0, 8) -> 0", "sees(0, 9) -> {20}", "sees(0, 23) -> {20}");
        e.answers("14: ASLEEP", List.of("guard(4, 14, 10, 0)"), "sees(0, 0) -> 0", "sees(0, 1) -> {20}", "sees(0, 22) -> 0", "sees(0, 23) -> {20}");
        e.answers("14: LEFT of the WAY he is TURNED", List.of("guard(3, 14, 10, 0)"), "sees(0, 0) -> {20}", "sees(0, 1) -> {13}", "sees(0, 2) -> {8}", "sees(0, 3) -> {15}", "sees(0, 4) -> {20}");
        e.answers("14: from where he stands, as his walk turned him", List.of("guard(0, 12, 11, 0)"), "sees(0, 0) -> {18}", "sees(0, 1) -> {7}", "sees(0, 23) -> {7}");
        e.answers("14: behind 23 comes 0", List.of("guard(5, 14, 10, 9)", "set(0, 0, 20)"), "sees(0, 3) -> {20}", "sees(0, 4) -> 0", "sees(0, 12) -> 0", "sees(0, 13) -> {20}");
    }

    private static void named(Edges e, String law, String guard, String call, String... rows) {
        e.answers("14: " + law, List.of("says(" + law + " ; worth 1 ;)", "force(1)", guard, call), rows);
    }

    private static void names(Edges e) {
        named(e, "reach far ; sees 1", "guard(1, 0, 10, 3)", "lay(1, ALL)", "sees(0, 5) -> 0");
        named(e, "reach 1 + lit ; sees 1", "guard(1, 0, 10, 3)", "lay(1, ALL-{0})", "sees(0, 5) -> {6}", "put(0, 1, 1) -> 0", "sees(0, 5) -> {6 12}");
        named(e, "reach more ; sees 1", "guard(1, 0, 10, 3)", "guard(1, 5, 10, 0)", "sees(0, 5) -> {6 12 18}", "sees(1, 5) -> 0");
        named(e, "reach second ; sees 1", "guard(1, 0, 10, 3)", "set(0, 0, 23)", "sees(0, 0) -> 0", "sees(0, 1) -> {6}", "sees(0, 23) -> {6 12 18 24 30}");
        named(e, "reach number ; sees 1", "guard(1, 0, 10, 3)", "guard(1, 5, 10, 0)", "sees(0, 5) -> 0", "sees(1, 5) -> {11}");
        named(e, "reach cell ; sees 1", "guard(0, 0, 11, 3)", "set(0, 0, 0)", "sees(0, 0) -> 0", "guard(1, 2, 10, 0) -> 1", "sees(1, 0) -> {8 14}");
        named(e, "reach 9 ; sees far = 5", "guard(1, 0, 10, 3)", "count(0)", "sees(0, 5) -> {30}");
        named(e, "reach 9 ; sees lit", "guard(1, 0, 10, 3)", "lay(1, {0 12 30 31})", "sees(0, 5) -> {12 30}");
        named(e, "reach 9 ; sees more = 3", "guard(1, 0, 10, 3)", "guard(1, 5, 10, 4)", "sees(0, 5) -> {6 12 18 24 30}", "sees(1, 5) -> 0");
        named(e, "reach 9 ; sees second = 23", "guard(1, 0, 10, 3)", "set(0, 0, 1)", "sees(0, 22) -> 0", "sees(0, 23) -> {6 12 18 24 30}", "sees(0, 0) -> 0");
        named(e, "reach 9 ; sees number = 1", "guard(1, 0, 10, 3)", "guard(1, 5, 10, 4)", "sees(0, 5) -> 0", "sees(1, 5) -> {11 17 23 29 35}");
        named(e, "reach 9 ; sees cell = 35 or cell < 12", "guard(1, 5, 10, 3)", "guard(1, 0, 10, 4)", "sees(0, 5) -> {11 35}", "sees(1, 5) -> {6}");
    }

    private static void watched(Edges e) {
        e.answers("15: no GUARDS", NEW, "watched(0) -> 0", "watched(23) -> 0");
        e.answers("15: any GUARD sees it, or stands in it", List.of("guard(1, 14, 10, 0)", "guard(1, 0, 30, 0)", "guard(1, 35, 0, 0)"), "watched(0) -> {14 20 0 35 34}");
        e.answers("15: stands in it, LOOKS or not", List.of("guard(5, 14, 10, 9)", "guard(4, 0, 10, 0)"), "watched(0) -> {14 0}", "watched(8) -> {14 0}", "watched(9) -> {14 20 0 6}");
        e.answers("15: stands in it, though it is a WALL", List.of("lay(0, ALL)", "guard(5, 14, 10, 9)"), "watched(0) -> {14}", "watched(23) -> {14}");
        e.answers("15: the last of five", FULL, "watched(3) -> {0 5 13 18 19 21 22 23 31}");
        e.answers("15: where he stands then", List.of("says(reach 0 ; sees 1 ; worth 1 ;)", "force(1)", "guard(0, 0, 15, 0)"), "watched(0) -> {0}", "watched(5) -> {5}",
            "watched(10) -> {0}", "watched(23) -> {3}");
        e.answers("15: by the whole way round", List.of("guard(0, 0, 15, 0)", "set(0, 0, 23)"), "watched(0) -> {3 9}", "watched(1) -> {0 6}");
    }

    /** What is seen follows each call that changes something, whatever was asked before. */
    private static void follows(Edges e) {
        List<String> one = List.of("guard(1, 14, 10, 0)", "watched(0)");
        e.answers("15: behind lay()", one, "lay(0, {20}) -> 0", "watched(0) -> {14}", "lay(0, 0) -> {20}", "watched(0) -> {14 20}", "lay(1, {26}) -> 0", "watched(0) -> {14 20 26}", "lay(2, {20}) -> 0",
            "watched(0) -> {14 20}", "lay(1, {19}) -> {26}", "watched(0) -> {14 20 19}", "lay(2, 0) -> {20}", "watched(0) -> {14 20}");
        e.answers("15: behind put()", one, "put(20, 0, 1) -> 0", "watched(0) -> {14}", "put(20, 0, 0) -> 1", "watched(0) -> {14 20}", "put(26, 1, 1) -> 0", "watched(0) -> {14 20 26}", "put(20, 2, 1) -> 0",
            "watched(0) -> {14 20}", "put(19, 1, 1) -> 0", "watched(0) -> {14 20 19}", "put(20, 2, 0) -> 1", "watched(0) -> {14 20 26}");
        e.answers("15: behind force()", one, "says(reach 0 ; sees 1 ; worth 1 ;) -> 1", "watched(0) -> {14 20}", "force(1) -> 0", "watched(0) -> {14}", "force(0) -> 1", "watched(0) -> {14 20}");
        e.answers("15: behind guard()", one, "guard(1, 0, 10, 0) -> 1", "watched(0) -> {14 20 0 6}", "guard(1, 35, 0, 0) -> 2", "watched(0) -> {14 20 0 6 35 34}");
        e.answers("15: behind set()", List.of("guard(0, 14, 10, 0)", "watched(0)"), "set(0, 0, 1) -> 0", "watched(0) -> {14 20}", "set(0, 1, 1) -> 0", "watched(0) -> {15 9}", "set(0, 0, 0) -> 1",
            "watched(0) -> {14 20}", "set(0, 0, 3) -> 0", "watched(0) -> {15 9}", "set(0, 1, 0) -> 1", "watched(0) -> {14 20}");
        e.answers("15: behind back()", Edges.with(one, "image()", "put(20, 0, 1)", "watched(0)"), "back() -> 1", "watched(0) -> {14 20}", "guard(1, 0, 10, 0) -> 1", "watched(0) -> {14 20 0 6}", "back() -> 1",
            "watched(0) -> {14 20}");
        e.answers("15: behind guardsBy()", Edges.with(one, "sheet(0, 2, 4)", "cell(0, 0, 1)", "cell(0, 2, 10)", "watched(0)"), "guardsBy(0, 2, 0, 1) -> 1", "watched(0) -> {14 20 0 6}");
        e.answers("15: behind text() nothing follows", one, "says(reach 0 ; sees 1 ; worth 1 ;) -> 1", "watched(0) -> {14 20}");
        e.answers("16 .. 18: likewise", List.of("lay(0, ALL-{2})", "guard(5, 8, 30, 7)", "worst(0)"), "alone(2) -> 127", "set(0, 0, 7) -> 0", "alone(2) -> " + (127 << 17), "unseen(2) -> 7", "guard(5, 8, 30, 3) -> 1",
            "alone(2) -> 0", "unseen(2) -> 0", "worst(0) -> 0", "worst(3) -> 0", "lay(0, 0) -> ALL-{2}", "worst(0) -> 24", "worst(1) -> 0");
        e.answers("19 .. 22: likewise", List.of("lay(0, ALL-{2 3})", "soon(2, 3, 0)"), "soon(2, 3, 0) -> 1", "guard(1, 8, 30, 0) -> 0", "soon(2, 3, 0) -> -1", "path(2, 3, 0, 1) -> -1", "hides(2, 0, 0) -> 0", "when(2, 3) -> 0",
            "set(0, 1, 1) -> 0", "when(2, 3) -> 0", "lay(0, ALL-{2 3 4}) -> ALL-{2 3}", "hides(3, 0, 1) -> {3 4}");
        e.answers("24 .. 27: likewise", List.of("lay(0, ALL-{2})", "guard(5, 8, 30, 7)", "shift(0, 1)"), "holds({2}, 6) -> 0", "guard(5, 8, 30, 3) -> 1", "holds({2}, 6) -> 1", "bribes({2}, 6) -> 3", "fewest({2}, 6, 0) -> 2",
            "shift(0, 1) -> 0", "set(1, 0, 12) -> 0", "shift(0, 0) -> 0", "holds({2}, 2) -> 1", "fewest({2}, 0, 0) -> 3");
        e.answers("28 .. 31: likewise", List.of("lay(0, ALL-{2})", "guard(1, 8, 30, 0)", "film(0, 2)", "judge(0, 2)"), "put(2, 0, 1) -> 0", "judge(0, 2) -> 0", "which(0) -> {8}", "laws(0, 2) -> 0", "gone(0, 2) -> 0",
            "put(2, 0, 0) -> 1", "judge(0, 2) -> -1", "which(0) -> {2 8}", "laws(0, 2) -> 1", "gone(0, 2) -> 1");
    }

    private static void aloneAndUnseen(Edges e) {
        e.answers("16: all SECONDS", NEW, "alone(0) -> 16777215", "alone(35) -> 16777215");
        e.answers("16: none", List.of("guard(1, 14, 10, 0)"), "alone(14) -> 0", "alone(20) -> 0", "alone(8) -> 16777215");
        e.answers("16: SECONDS 0 and 23", List.of("guard(5, 14, 10, 1)", "guard(5, 21, 10, 1)", "set(1, 0, 1)"), "alone(20) -> {0}", "alone(27) -> {23}");
        e.answers("16: of a WALL", WALLED, "alone(0) -> 16777215", "guard(1, 0, 0, 0) -> 0", "alone(0) -> 0");
        e.answers("17: of a WALL", WALLED, "unseen(0) -> 24", "guard(1, 0, 0, 0) -> 0", "unseen(0) -> 0");
        e.answers("17: 24: all", NEW, "unseen(0) -> 24", "unseen(35) -> 24");
        e.answers("17: 0: none", List.of("guard(1, 14, 10, 0)"), "unseen(14) -> 0", "unseen(20) -> 0", "unseen(8) -> 24");
        e.answers("17: the first, the last CELL", List.of("guard(1, 0, 0, 0)", "guard(1, 35, 20, 0)"), "unseen(0) -> 0", "unseen(35) -> 0", "unseen(1) -> 24", "unseen(34) -> 24");
    }

    /** The seconds at which a cell is seen, by a law; and its gap. */
    private static void gap(Edges e, String sentence, String seen, int gap) {
        e.answers("17: " + sentence, Edges.with(ONE_CELL, "says(reach 1 ; sees " + seen + " ; worth 1 ;)", "force(1)", "guard(1, 8, 30, 0)"), "unseen(2) -> " + gap, "worst(0) -> " + gap,
            "worst(1) -> 2", "worst(2) -> " + (gap == 24 ? 1 : 0));
    }

    private static void gaps(Edges e) {
        gap(e, "24: all", "0", 24);
        gap(e, "0: none", "1", 0);
        gap(e, "all but the first: 23", "second = 0", 23);
        gap(e, "all but the last: 23", "second = 23", 23);
        gap(e, "all but one: 23, round and round", "second = 11", 23);
        gap(e, "one SECOND, the first", "0 < second", 1);
        gap(e, "one SECOND, the last", "second < 23", 1);
        gap(e, "the first and the last are one behind the other", "0 < second and second < 23", 2);
        gap(e, "round and round", "9 < second and second < 20", 14);
        gap(e, "not round", "second < 5 or 15 < second", 11);
        gap(e, "the most, of two: the one round", "second = 8 or second = 15", 16);
        gap(e, "the most, of two: the other", "second = 1 or second = 20", 18);
        gap(e, "half and half: 11 each", "second = 0 or second = 12", 11);
        gap(e, "every other one", "second = 0 or second=2 or second=4 or second=6 or second=8 or second=10 or second=12 or 13<second", 1);
        gap(e, "the last SECOND ends one", "second = 23 or second = 3", 19);
    }

    private static void worst(Edges e) {
        e.answers("18: of a new one", NEW, "worst(0) -> 24", "worst(1) -> 0", "worst(2) -> 36", "worst(3) -> 864");
        e.answers("18: how many are 24", List.of("guard(1, 14, 10, 0)", "lay(0, {0 35})"), "worst(0) -> 24", "worst(1) -> 1", "worst(2) -> 32", "worst(3) -> 768");
        e.answers("18: the last CELL alone", List.of("lay(0, ALL-{35})"), "worst(0) -> 24", "worst(1) -> 35", "worst(2) -> 1", "worst(3) -> 24");
        e.answers("18: none is 24", Edges.with(ONE_CELL, "guard(5, 8, 30, 7)"), "worst(0) -> 7", "worst(1) -> 2", "worst(2) -> 0", "worst(3) -> 7");
        e.answers("18: the greatest is 0", Edges.with(ONE_CELL, "guard(5, 8, 30, 0)"), "worst(0) -> 0", "worst(1) -> 2", "worst(2) -> 0", "worst(3) -> 0");
        List<String> two = List.of("lay(0, ALL-{2 3})", "guard(5, 8, 30, 7)", "guard(5, 9, 30, 7)");
        e.answers("18: the first CELL of it, of two", two, "worst(0) -> 7", "worst(1) -> 2", "worst(2) -> 0", "worst(3) -> 14");
        e.answers("18: the first CELL of it, the later one", Edges.with(List.of("lay(0, ALL-{2 3})"), "guard(5, 8, 30, 7)", "guard(5, 9, 30, 8)"), "worst(0) -> 8", "worst(1) -> 3", "worst(3) -> 15");
        e.answers("18: the first CELL of it, the earlier one", Edges.with(List.of("lay(0, ALL-{2 3})"), "guard(5, 8, 30, 8)", "guard(5, 9, 30, 7)"), "worst(0) -> 8", "worst(1) -> 2", "worst(3) -> 15");
        e.answers("18: round and round", Edges.with(two, "set(0, 0, 4)"), "worst(0) -> 7", "worst(1) -> 2", "unseen(2) -> 7", "unseen(3) -> 7");
    }

    private static void worstOfNone(Edges e) {
        e.answers("18: 0: no CELLS", WALLED, "worst(0) -> 0");
        e.answers("18: -1: no CELLS", WALLED, "worst(1) -> -1");
        e.answers("18: none of no CELLS", WALLED, "worst(2) -> 0", "worst(3) -> 0");
        e.answers("18: no CELLS, and a GUARD", Edges.with(WALLED, "guard(1, 0, 0, 0)"), "worst(0) -> 0", "worst(1) -> -1", "worst(2) -> 0", "worst(3) -> 0");
        e.answers("18: one CELL again", Edges.with(WALLED, "worst(1)", "put(35, 0, 0)"), "worst(0) -> 24", "worst(1) -> 35", "worst(2) -> 1");
    }

    private static void worthOf(Edges e, String worth, int due) {
        e.answers("18: worth " + worth, Edges.with(ONE_CELL, "says(reach 1 ; sees 1 ; worth " + worth + " ;)", "force(1)", "guard(5, 8, 30, 7)"), "worst(3) -> " + due);
    }

    private static void worth(Edges e) {
        worthOf(e, "0", 0);
        worthOf(e, "99", 7 * 99);
        worthOf(e, "100", 7 * 99);
        worthOf(e, "-1", 0);
        worthOf(e, "second * 33", 33 + 66 + 4 * 99);
        worthOf(e, "second - 3", 1 + 2 + 3);
        worthOf(e, "cell", 14);
        worthOf(e, "lit", 0);
        worthOf(e, "5 + far", 35);
        worthOf(e, "5 + more", 35);
        worthOf(e, "5 + number", 35);
        e.answers("18: lit: of the CELL", Edges.with(NEW, "lay(0, ALL-{2 3})", "lay(1, {3 8})", "says(reach 1 ; sees 1 ; worth 1 + lit * 9 ;)", "force(1)"), "worst(3) -> 264");
        e.answers("18: the most", List.of("says(reach 1 ; sees 1 ; worth 9999 ;)", "force(1)"), "worst(3) -> 85536");
        e.answers("18: worth of the greatest CELL, at the last SECOND", List.of("says(reach 1 ; sees 1 ; worth (cell = 35) * (second = 23) * 50;)", "force(1)"), "worst(3) -> 50");
        e.answers("18: worth of the first CELL, at the first SECOND", List.of("says(reach 1 ; sees 1 ; worth (cell = 0) * (second = 0) * 50;)", "force(1)"), "worst(3) -> 50");
        e.answers("18: far, more, number 0, whatever was asked before", List.of("says(reach 1 ; sees 1 ; worth far + more + number ;)", "force(1)", "guard(5, 14, 10, 9)", "asks(2, 99, 9, 23, 999)"),
            "worst(3) -> 0");
        e.answers("18: SECONDS at which they aren't SEEN", new ArrayList<>(List.of("lay(0, ALL-{2})", "says(reach 1 ; sees second < 20 ; worth second ;)", "force(1)", "guard(1, 8, 30, 0)")),
            "worst(3) -> 86");
    }
}
