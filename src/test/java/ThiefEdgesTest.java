import java.util.ArrayList;
import java.util.List;

/** The boundaries of promises 19 to 23, and of the terms that they use (A THIEF, SOONEST). */
public final class ThiefEdgesTest {
    private static final List<String> NEW = Edges.NEW, RICH = Edges.RICH, WALLED = Edges.WALLED;
    /** The cells 0 .. 5 alone. */
    private static final List<String> ROW = List.of("lay(0, ALL-{0 1 2 3 4 5})");
    /** In the row, 2 is seen but for second 0; but for seconds 0 .. 4; always. */
    private static final List<String> AT_0 = Edges.with(ROW, "guard(5, 8, 30, 1)"), AT_0_TO_4 = Edges.with(ROW, "guard(5, 8, 30, 5)"),
        NEVER = Edges.with(ROW, "guard(1, 8, 30, 0)");

    public static void main(String[] args) {
        Edges e = new Edges("ThiefEdgesTest");
        refused(e);
        refusedMore(e);
        heIsThere(e);
        beside(e);
        atMost24(e);
        roundAndRound(e);
        never(e);
        path(e);
        hides(e);
        when(e);
        more(e);
        moreOfTwo(e);
        moreOfLikeOnes(e);
        moreOfNone(e);
        e.end();
    }

    private static void refused(Edges e) {
        for (String cell : new String[] {"-1", "36", "MIN", "MAX"}) {
            e.refused("19: -5: no such CELLS", RICH, "soon(" + cell + ", 0, 0) -> -5", "soon(0, " + cell + ", 0) -> -5", "soon(" + cell + ", " + cell + ", 0) -> -5");
            e.refused("20: -5: no such CELLS", RICH, "path(" + cell + ", 0, 0, 0) -> -5", "path(0, " + cell + ", 0, 0) -> -5");
            e.refused("21: NO: CELL", RICH, "hides(" + cell + ", 0, 0) -> NO");
            e.refused("22: -5: no such CELLS", RICH, "when(" + cell + ", 0) -> -5", "when(0, " + cell + ") -> -5");
        }
        for (String second : new String[] {"-1", "24", "MIN", "MAX"}) {
            e.refused("19: -7: SECOND", RICH, "soon(0, 0, " + second + ") -> -7", "soon(35, 2, " + second + ") -> -7");
            e.refused("20: -7: SECOND", RICH, "path(0, 0, " + second + ", 0) -> -7");
            e.refused("21: NO: SECOND", RICH, "hides(0, " + second + ", 0) -> NO");
        }
        for (String k : new String[] {"-1", "25", "MIN", "MAX"}) {
            e.refused("20: -7: k", RICH, "path(0, 0, 0, " + k + ") -> -7");
            e.refused("21: NO: k", RICH, "hides(0, 0, " + k + ") -> NO");
        }
        e.refused("19: of several the first: no CELL, SECOND", RICH, "soon(36, 0, 24) -> -5", "soon(0, 36, -1) -> -5", "soon(-1, -1, 24) -> -5");
        e.refused("20: of several the first: no CELL, SECOND", RICH, "path(36, 0, 24, 0) -> -5", "path(0, -1, -1, 0) -> -5");
        e.refused("20: of several the first: no CELL, k", RICH, "path(36, 0, 0, 25) -> -5", "path(0, -1, 0, -1) -> -5");
        e.refused("20: of several the first: all", RICH, "path(36, 36, 24, 25) -> -5");
        e.refused("20: -7: SECOND and k", RICH, "path(0, 0, 24, 25) -> -7");
        e.refused("21: NO: all", RICH, "hides(36, 24, 25) -> NO", "hides(0, 24, 25) -> NO", "hides(36, 0, 25) -> NO", "hides(36, 24, 0) -> NO");
        e.refused("19: a -1 that is an answer comes behind the refusal of a number", WALLED, "soon(0, 35, 24) -> -7", "soon(0, 35, -1) -> -7", "soon(0, 36, 0) -> -5");
        e.refused("20: a -1 that is an answer (there is none) comes behind it", WALLED, "path(0, 35, 24, 0) -> -7", "path(0, 35, 0, 25) -> -7", "path(36, 0, 0, 0) -> -5");
        e.refused("20: a -1 that is an answer (k is greater) comes behind it", NEW, "path(0, 0, 24, 5) -> -7", "path(0, 0, 0, 25) -> -7", "path(0, 36, 0, 5) -> -5");
    }

    private static void refusedMore(Edges e) {
        for (int what = 0; what < 4; what++) {
            for (String cell : new String[] {"-1", "36", "MIN", "MAX"}) {
                e.refused("23: -5: no such CELLS", RICH, "more(" + cell + ", 0, " + what + ") -> -5", "more(0, " + cell + ", " + what + ") -> -5");
            }
        }
        e.refused("23: -7: what", RICH, "more(0, 0, -1) -> -7", "more(0, 0, 4) -> -7", "more(0, 0, MIN) -> -7", "more(0, 0, MAX) -> -7");
        e.refused("23: of several the first: no CELL, what", RICH, "more(36, 0, 4) -> -5", "more(0, -1, -1) -> -5", "more(36, 36, 4) -> -5");
        e.refused("23: a -1 that is an answer comes behind the refusal of a number", NEW, "more(0, 35, 4) -> -7", "more(0, 36, 0) -> -5", "more(-1, 0, 1) -> -5");
        e.changesNothing("19 .. 23: what is asked changes nothing", RICH, "soon(14, 2, 3) -> -1", "path(11, 2, 3, 1) -> 10", "more(14, 2, 1) -> 20");
        e.changesNothing("19 .. 22: what is asked changes nothing", AT_0_TO_4, "soon(0, 5, 2) -> 5", "path(0, 5, 2, 3) -> 3", "hides(0, 3, 21) -> {0 1 2}", "when(2, 5) -> 31");
        List<String> lamp = List.of("lay(0, ALL-{2})", "says(reach 1 ; sees lit ; worth 1 ;)", "force(1)", "guard(1, 8, 30, 0)");
        e.changesNothing("23: what is asked changes nothing: LAMPS", lamp, "more(2, 2, 0) -> 2", "more(2, 2, 2) -> 0");
        List<String> mirror = List.of("lay(0, ALL-{0 1 6})", "says(reach 3 ; sees far = 3 ; worth 1 ;)", "force(1)", "guard(1, 12, 30, 0)");
        e.changesNothing("23: what is asked changes nothing: MIRRORS", mirror, "more(0, 1, 1) -> 0", "more(0, 1, 3) -> 0");
    }

    private static void heIsThere(Edges e) {
        for (int c : new int[] {0, 5, 30, 35}) {
            e.answers("19: 0: he is there", NEW, "soon(" + c + ", " + c + ", 0) -> 0", "soon(" + c + ", " + c + ", 23) -> 0", "path(" + c + ", " + c + ", 23, 0) -> " + c);
        }
        e.answers("19: he is there, but SEEN then", NEVER, "soon(2, 2, 0) -> -1", "path(2, 2, 0, 0) -> -1", "hides(2, 0, 0) -> 0");
        e.answers("19: he is there, SEEN later", AT_0_TO_4, "soon(2, 2, 4) -> 0", "soon(2, 2, 5) -> -1");
        e.answers("19: he is there, but it is a WALL", WALLED, "soon(7, 7, 0) -> -1", "path(7, 7, 0, 0) -> -1", "hides(7, 0, 0) -> 0");
    }

    private static void beside(Edges e) {
        e.answers("A THIEF: the same, or one beside it (WAYS 0 .. 3)", NEW, "hides(14, 0, 1) -> {14 20 15 8 13}", "hides(0, 0, 1) -> {0 1 6}", "hides(5, 0, 1) -> {5 4 11}",
            "hides(30, 0, 1) -> {30 24 31}", "hides(35, 0, 1) -> {35 34 29}", "hides(3, 0, 1) -> {3 2 4 9}", "hides(33, 0, 1) -> {33 32 34 27}");
        e.answers("A THIEF: not outside, to the next row", NEW, "hides(11, 0, 1) -> {11 10 5 17}", "hides(12, 0, 1) -> {12 13 6 18}", "soon(5, 6, 0) -> 6", "soon(6, 5, 0) -> 6", "soon(29, 30, 0) -> 6");
        e.answers("A THIEF: not outside, from the last row to the first", NEW, "soon(0, 30, 0) -> 5", "soon(35, 5, 0) -> 5", "soon(2, 32, 0) -> 5");
        e.answers("A THIEF: not by a corner", List.of("lay(0, ALL-{0 7})"), "soon(0, 7, 0) -> -1", "hides(0, 0, 24) -> {0}");
        e.answers("A THIEF: in CELLS that are no WALLS", List.of("lay(0, {6 7})"), "soon(0, 12, 0) -> 6", "hides(0, 0, 1) -> {0 1}");
        e.answers("A THIEF: LAMPS and MIRRORS do not matter", List.of("lay(1, ALL)", "lay(2, ALL)"), "soon(0, 35, 0) -> 10");
    }

    private static void atMost24(Edges e) {
        e.answers("19: 24 SECONDS more at most: 24", AT_0, "soon(0, 2, 0) -> 24", "soon(1, 2, 0) -> 24", "path(0, 2, 0, 24) -> 2", "path(0, 2, 0, 23) -> 1", "path(0, 2, 0, 0) -> 0");
        e.answers("19: -1: not by 24: 25", AT_0, "soon(0, 3, 0) -> -1", "soon(0, 2, 23) -> -1", "path(0, 3, 0, 0) -> -1", "path(0, 2, 23, 24) -> -1");
        e.answers("19: 23", AT_0, "soon(0, 2, 1) -> 23", "soon(0, 3, 1) -> 24", "soon(0, 4, 1) -> -1");
        e.answers("21: k 24", AT_0, "hides(0, 0, 24) -> {0 1 2}", "hides(0, 0, 23) -> {0 1}", "hides(0, 23, 24) -> {0 1}");
        e.answers("22: by 24 alone", AT_0, "when(0, 2) -> 8388607", "when(0, 3) -> 8388606", "when(1, 2) -> 16777215", "when(0, 4) -> 8388604");
    }

    private static void roundAndRound(Edges e) {
        e.answers("19: behind 23 comes 0", AT_0, "soon(1, 2, 23) -> 1", "soon(1, 3, 23) -> 2", "soon(0, 2, 22) -> 2", "soon(0, 5, 22) -> 5");
        e.answers("20: behind 23 comes 0", AT_0, "path(0, 5, 22, 0) -> 0", "path(0, 5, 22, 1) -> 1", "path(0, 5, 22, 2) -> 2", "path(0, 5, 22, 5) -> 5");
        e.answers("21: behind 23 comes 0", AT_0, "hides(1, 23, 1) -> {0 1 2}", "hides(1, 23, 2) -> {0 1 3}", "hides(1, 22, 1) -> {0 1}");
        e.answers("22: behind 23 comes 0", AT_0, "when(1, 5) -> 16777208", "when(2, 2) -> 1", "when(3, 3) -> 16777215");
        e.answers("19: SEEN by one who goes ahead", Edges.with(AT_0, "set(0, 0, 1)"), "soon(1, 2, 22) -> 1", "soon(1, 2, 23) -> 24", "soon(0, 2, 23) -> 24");
    }

    private static void never(Edges e) {
        e.answers("19: -1: always SEEN", NEVER, "soon(0, 5, 0) -> -1", "soon(0, 2, 0) -> -1", "soon(2, 0, 0) -> -1", "when(0, 5) -> 0", "when(2, 0) -> 0");
        e.answers("19: on this side", NEVER, "soon(0, 1, 0) -> 1", "soon(3, 5, 0) -> 2", "hides(0, 0, 24) -> {0 1}");
        e.answers("19: -1: WALLS", ROW, "soon(0, 6, 0) -> -1", "soon(6, 0, 0) -> -1", "when(0, 6) -> 0", "when(6, 0) -> 0", "hides(6, 0, 24) -> 0");
        e.answers("19: -1: SEEN where a GUARD stands", List.of("lay(0, ALL-{0 1 2})", "guard(5, 1, 0, 9)"), "soon(0, 2, 0) -> -1", "when(0, 2) -> 0");
        e.answers("19: SEEN at first alone", AT_0_TO_4, "soon(2, 3, 5) -> -1", "soon(2, 3, 4) -> 1", "hides(2, 5, 24) -> 0");
        e.answers("19: SEEN at last alone", AT_0_TO_4, "soon(1, 2, 4) -> 20", "soon(1, 2, 3) -> 1");
    }

    private static void way(Edges e, String sentence, List<String> story, String call, int... cells) {
        List<String> rows = new ArrayList<>();
        for (int k = 0; k < cells.length; k++) rows.add("path(" + call + ", " + k + ") -> " + cells[k]);
        for (int k = cells.length; k < 25; k++) rows.add("path(" + call + ", " + k + ") -> -1");
        e.answers("20: " + sentence, story, rows.toArray(new String[0]));
    }

    private static void path(Edges e) {
        way(e, "he is there; -1: k is greater", NEW, "7, 7, 0", 7);
        way(e, "the first one beside it: y more ahead of all", NEW, "35, 0, 0", 35, 34, 33, 32, 31, 30, 24, 18, 12, 6, 0);
        way(e, "the first one beside it: x more ahead of x less", NEW, "33, 0, 0", 33, 32, 31, 30, 24, 18, 12, 6, 0);
        way(e, "the first one beside it: x more ahead of y less", NEW, "5, 24, 0", 5, 11, 17, 23, 29, 28, 27, 26, 25, 24);
        way(e, "the first one beside it: y less ahead of x less", NEW, "0, 14, 0", 0, 1, 2, 8, 14);
        way(e, "the first one beside it: y more ahead of x less", NEW, "24, 7, 0", 24, 25, 19, 13, 7);
        way(e, "x less at last", NEW, "0, 3, 0", 0, 1, 2, 3);
        way(e, "none", WALLED, "0, 35, 0");
        way(e, "none", NEVER, "0, 5, 0");
        way(e, "in the same CELL, if he could be there by then", AT_0_TO_4, "0, 5, 3", 0, 1, 1, 1, 1, 1, 1, 1, 1, 1, 1, 1, 1, 1, 1, 1, 1, 1, 1, 1, 1, 2, 3, 4, 5);
        way(e, "24 SECONDS of it", AT_0, "0, 2, 0", 0, 1, 1, 1, 1, 1, 1, 1, 1, 1, 1, 1, 1, 1, 1, 1, 1, 1, 1, 1, 1, 1, 1, 1, 2);
        way(e, "no wait at the end", AT_0_TO_4, "1, 5, 3", 1, 2, 3, 4, 5);
        way(e, "where he is SEEN he could not be by then", List.of("lay(0, ALL-{0 1 2 6 7 8})", "guard(5, 13, 30, 1)"), "0, 8, 23", 0, 1, 2, 8);
    }

    private static void hides(Edges e) {
        e.answers("21: k 0", NEW, "hides(0, 0, 0) -> {0}", "hides(35, 23, 0) -> {35}");
        e.answers("21: just k behind t: by 10 he can be in the farthest one", NEW, "hides(0, 0, 9) -> ALL-{35}", "hides(0, 0, 10) -> ALL", "hides(0, 0, 24) -> ALL");
        e.answers("21: just k behind t: he has to have gone", AT_0_TO_4, "hides(2, 4, 0) -> {2}", "hides(2, 4, 1) -> {1 3}", "hides(2, 4, 2) -> {0 1 3 4}", "hides(2, 4, 20) -> {0 1 2 3 4 5}",
            "hides(2, 4, 24) -> {0 1 2 3 4 5}", "hides(2, 4, 19) -> {0 1 3 4 5}");
        e.answers("21: nowhere any more", List.of("lay(0, ALL-{2})", "guard(5, 8, 30, 5)"), "hides(2, 4, 0) -> {2}", "hides(2, 4, 1) -> 0", "hides(2, 4, 24) -> 0", "hides(2, 0, 4) -> {2}", "hides(2, 0, 5) -> 0");
        e.answers("21: nowhere at first: nor later, whatever was asked before", NEVER, "hides(0, 0, 24) -> {0 1}", "hides(2, 0, 0) -> 0", "hides(0, 0, 24) -> {0 1}", "hides(2, 0, 24) -> 0",
            "hides(0, 0, 24) -> {0 1}", "hides(2, 0, 1) -> 0");
        e.answers("21: none of WALLS", WALLED, "hides(0, 0, 0) -> 0", "hides(0, 0, 24) -> 0");
        e.answers("21: no answer is NO", NEW, "hides(35, 23, 24) -> ALL");
    }

    private static void when(Edges e) {
        e.answers("22: all SECONDS", NEW, "when(0, 35) -> 16777215", "when(35, 35) -> 16777215");
        e.answers("22: none", NEVER, "when(0, 3) -> 0");
        e.answers("22: of where he is", AT_0_TO_4, "when(2, 2) -> 31", "when(1, 1) -> 16777215");
        e.answers("22: SECOND 23 alone", Edges.with(AT_0, "set(0, 0, 1)"), "when(2, 2) -> 8388608");
        e.answers("22: SECOND 0 alone", AT_0, "when(2, 2) -> 1", "when(2, 5) -> 1");
    }

    /** A guard in the wall at 8 who sees in 2 what a law tells. */
    private static List<String> lawAt2(String sees, String... calls) {
        return Edges.with(Edges.with(List.of("lay(0, ALL-{2})", "says(reach 1 ; sees " + sees + " ; worth 1 ;)", "force(1)", "guard(1, 8, 30, 0)")), calls);
    }

    private static void more(Edges e) {
        e.answers("23: a LAMP: none then", lawAt2("lit"), "more(2, 2, 0) -> 2", "more(2, 2, 2) -> 0", "laid(1) -> 0", "when(2, 2) -> 16777215");
        e.answers("23: a LAMP: one SECOND fewer", lawAt2("lit and second = 0"), "more(2, 2, 0) -> 2", "more(2, 2, 2) -> 23");
        e.answers("23: a LAMP: one SECOND fewer, the last", lawAt2("lit and second = 23"), "more(2, 2, 0) -> 2", "more(2, 2, 2) -> 23");
        e.answers("23: if fewer than now: as many is none", lawAt2("second = 0"), "more(2, 2, 0) -> -1", "more(2, 2, 2) -> 23", "more(2, 2, 1) -> -1", "more(2, 2, 3) -> 23");
        e.answers("23: if fewer than now: more is none", lawAt2("not lit"), "more(2, 2, 0) -> -1", "more(2, 2, 2) -> 0");
        e.answers("23: if fewer than now: of 0 there are no fewer", lawAt2("1"), "more(2, 2, 0) -> -1", "more(2, 2, 2) -> 0", "more(2, 2, 1) -> -1", "more(2, 2, 3) -> 0");
        e.answers("23: one more of LAMPS: where there is one already is none", lawAt2("lit and second < 3", "put(2, 1, 1)"), "more(2, 2, 0) -> -1", "more(2, 2, 2) -> 21");
        List<String> mirror = List.of("lay(0, ALL-{8 14})", "says(reach 9 ; sees far = 2 ; worth 1 ;)", "force(1)", "guard(1, 7, 20, 0)");
        e.answers("23: a MIRROR: no LAMP helps", mirror, "more(14, 14, 0) -> -1", "more(14, 14, 2) -> 24", "more(14, 14, 1) -> 8", "more(14, 14, 3) -> 0");
        List<String> turns = List.of("says(reach 9 ; sees far = 2 ; worth 1 ;)", "force(1)", "lay(0, ALL-{0 6})", "guard(1, 1, 0, 0)");
        e.answers("23: a MIRROR that turns outside", turns, "more(6, 6, 1) -> -1", "more(0, 0, 1) -> -1", "more(6, 6, 3) -> 24");
        List<String> brings = List.of("says(reach 9 ; sees far = 2 ; worth 1 ;)", "force(1)", "lay(0, ALL-{14 13})", "guard(1, 8, 10, 0)");
        e.answers("23: a MIRROR that brings it there", brings, "when(13, 13) -> 16777215", "more(13, 13, 1) -> 14", "more(13, 13, 3) -> 0", "more(13, 13, 0) -> -1", "laid(2) -> 0");
        e.answers("23: the CELL is no WALL", Edges.with(brings, "put(14, 0, 1)"), "more(13, 13, 1) -> -1", "more(13, 13, 3) -> 24");
        e.answers("23: a LAMP in a WALL is none", List.of("lay(0, ALL-{2})", "says(reach lit ; sees 1 ; worth 1 ;)", "force(1)", "guard(1, 8, 30, 0)"), "more(2, 2, 0) -> -1", "more(2, 2, 2) -> 24");
        e.answers("23: a LAMP where he stands", List.of("lay(0, ALL-{2 8})", "says(reach lit ; sees 1 ; worth 1 ;)", "force(1)", "guard(1, 8, 30, 0)"), "more(2, 2, 0) -> 8", "more(2, 2, 2) -> 0");
        e.answers("23: a MIRROR where he stands is none", List.of("lay(0, ALL-{14 20 26})", "says(reach 2 ; sees far = 2 ; worth 1 ;)", "force(1)", "guard(1, 14, 10, 0)"), "more(26, 26, 1) -> -1", "more(26, 26, 3) -> 0",
            "more(20, 20, 1) -> -1", "more(20, 20, 3) -> 24");
    }

    /** Who is not touched by the lamp, the mirror, sees on. */
    private static void moreOfTwo(Edges e) {
        List<String> two = List.of("lay(0, ALL-{0 1 2})", "says(reach 1+lit;sees number=0 and second<5 or number=1 and 9<second;worth 1;)", "force(1)", "guard(1, 8, 30, 0)", "guard(1, 0, 20, 0)");
        e.answers("23: a LAMP: the others see as now", two, "when(2, 2) -> " + (Checks.ALL_SECONDS & ~31), "more(2, 2, 0) -> 0", "more(2, 2, 2) -> 5", "more(2, 2, 1) -> -1", "more(2, 2, 3) -> 19");
        List<String> mirror = List.of("lay(0, ALL-{14 13 12})", "says(reach 9;sees number=1 and far=3 or number=0 and second<5;worth 1;)", "force(1)", "guard(1, 18, 30, 0)", "guard(1, 8, 10, 0)");
        e.answers("23: a MIRROR: the others see as now", mirror, "when(12, 12) -> " + (Checks.ALL_SECONDS & ~31), "more(12, 12, 1) -> 14", "more(12, 12, 3) -> 0", "more(12, 12, 0) -> -1");
        List<String> late = List.of("lay(0, ALL-{14 13 12})", "says(reach 9;sees number=1 and far=3 and 9<second or number=0 and second<5;worth 1;)", "force(1)", "guard(1, 18, 30, 0)", "guard(1, 8, 10, 0)");
        e.answers("23: a MIRROR: the others see as now", late, "more(12, 12, 1) -> 14", "more(12, 12, 3) -> 5");
    }

    private static void moreOfLikeOnes(Edges e) {
        List<String> row = List.of("lay(0, ALL-{0 1 2 3 4 5})", "says(reach 9 ; sees lit ; worth 1 ;)", "force(1)", "put(0, 2, 1)", "guard(1, 6, 30, 0)");
        e.answers("23: of like ones the first", row, "more(2, 4, 0) -> 2", "more(0, 4, 0) -> 0", "more(4, 1, 0) -> 1", "more(0, 0, 0) -> 0", "more(5, 5, 0) -> 5", "more(5, 3, 0) -> 3",
            "more(5, 3, 2) -> 0");
        List<String> fewest = List.of("lay(0, ALL-{0 1 2 3 4 5})", "says(reach 9;sees lit and second<cell*6+1;worth 1;)", "force(1)", "put(0, 2, 1)", "guard(1, 6, 30, 0)");
        e.answers("23: fewest ahead of the first", fewest, "more(0, 4, 0) -> 4", "more(0, 4, 2) -> 0", "more(0, 3, 0) -> 0", "more(0, 3, 2) -> 23", "more(3, 0, 0) -> 3", "more(3, 0, 2) -> 5");
        e.answers("23: the last CELL", List.of("lay(0, ALL-{35})", "says(reach 1 ; sees lit ; worth 1 ;)", "force(1)", "guard(1, 29, 10, 0)"), "more(35, 35, 0) -> 35", "more(35, 35, 2) -> 0");
        e.answers("23: the first CELL", List.of("lay(0, ALL-{0})", "says(reach 1 ; sees lit ; worth 1 ;)", "force(1)", "guard(1, 6, 30, 0)"), "more(0, 0, 0) -> 0", "more(0, 0, 2) -> 0");
        e.answers("23: of two who each see one the fewest", List.of("lay(0, ALL-{2 3})", "says(reach 1;sees lit and second<number*5+5;worth 1;)", "force(1)", "guard(1, 8, 30, 0)", "guard(1, 9, 30, 0)"),
            "more(2, 3, 0) -> 2", "more(2, 3, 2) -> 19", "more(3, 2, 0) -> 3", "more(3, 2, 2) -> 14");
    }

    private static void moreOfNone(Edges e) {
        e.answers("23: -1: none: no GUARDS", NEW, "more(0, 35, 0) -> -1", "more(0, 35, 1) -> -1", "more(0, 35, 2) -> 24", "more(0, 35, 3) -> 24");
        e.answers("23: -1: none: no CELLS", WALLED, "more(0, 35, 0) -> -1", "more(0, 35, 1) -> -1", "more(0, 35, 2) -> 0", "more(0, 35, 3) -> 0");
        e.answers("23: -1: none: LAMPS everywhere", Edges.with(RICH, "lay(1, ALL)"), "more(14, 2, 0) -> -1");
        e.answers("23: -1: none: MIRRORS everywhere", Edges.with(RICH, "lay(2, ALL)"), "more(14, 2, 1) -> -1");
    }
}
