import java.util.ArrayList;
import java.util.List;

/** The boundaries of promises 28 to 32. */
public final class ToldEdgesTest {
    private static final List<String> NEW = Edges.NEW, RICH = Edges.RICH, WALLED = Edges.WALLED;
    /** The cell 2 is seen from second 7 on, out of the wall at 8. */
    private static final List<String> FROM_7 = List.of("lay(0, ALL-{2})", "guard(5, 8, 30, 7)");
    /** RICH with sheets 1 missing, 2 of 23, 3 of 25. */
    private static final List<String> SIZES = Edges.with(RICH, "sheet(1, -1, 0)", "sheet(2, 0, 23)", "sheet(3, 2, 25)");
    private static final String[] WILD = {"-1", "36", "MIN", "MAX"};

    public static void main(String[] args) {
        Edges e = new Edges("ToldEdgesTest");
        refused(e, "28: ", "judge(");
        refused(e, "30: ", "laws(");
        refusedByNo(e);
        refusedBy0(e);
        judge(e);
        judgeNumbers(e);
        which(e);
        laws(e);
        gone(e);
        filmRefused(e);
        film(e);
        e.end();
    }

    /** What judge() and laws() refuse alike. */
    private static void refused(Edges e, String promise, String call) {
        e.refused(promise + "BAD: SHEET", SIZES, call + "-1, 14) -> BAD", call + "4, 14) -> BAD", call + "MIN, 14) -> BAD", call + "MAX, 14) -> BAD");
        e.refused(promise + "-11: missing", SIZES, call + "1, 14) -> -11");
        for (int s = 0; s < 4; s++) {
            e.refused(promise + "-11: missing, as all are at first", NEW, call + s + ", 14) -> -11");
        }
        e.refused(promise + "BAD: its size isn't 24: 23, 25", SIZES, call + "2, 14) -> BAD", call + "3, 14) -> BAD");
        e.refused(promise + "BAD: its size isn't 24: 0", Edges.with(NEW, "sheet(0, 0, 0)"), call + "0, 14) -> BAD");
        e.refused(promise + "BAD: its size isn't 24: 40", Edges.with(NEW, "sheet(0, 2, 40)"), call + "0, 14) -> BAD");
        e.refused(promise + "BAD: its size isn't 24: 1", Edges.with(NEW, "sheet(0, 1, 1)"), call + "0, 14) -> BAD");
        for (String cell : WILD) {
            e.refused(promise + "-5: no such CELL", SIZES, call + "0, " + cell + ") -> -5");
            e.refused(promise + "of several the first: SHEET, CELL", SIZES, call + "4, " + cell + ") -> BAD", call + "-1, " + cell + ") -> BAD");
            e.refused(promise + "of several the first: missing, CELL", SIZES, call + "1, " + cell + ") -> -11");
            e.refused(promise + "of several the first: size, CELL", SIZES, call + "2, " + cell + ") -> BAD", call + "3, " + cell + ") -> BAD");
        }
        e.refused(promise + "a -1 that is an answer comes behind the refusal of a number", Edges.with(NEW, "sheet(0, 0, 24)"), call + "0, 36) -> -5", call + "0, -1) -> -5");
    }

    private static void refusedByNo(Edges e) {
        e.refused("29: NO: SHEET", SIZES, "which(-1) -> NO", "which(4) -> NO", "which(MIN) -> NO", "which(MAX) -> NO");
        e.refused("29: NO: missing", SIZES, "which(1) -> NO");
        e.refused("29: NO: missing, as all are at first", NEW, "which(0) -> NO", "which(3) -> NO");
        e.refused("29: NO: its size isn't 24", SIZES, "which(2) -> NO", "which(3) -> NO");
        e.refused("29: NO: its size isn't 24: 0, 40", Edges.with(NEW, "sheet(0, 0, 0)", "sheet(1, 0, 40)"), "which(0) -> NO", "which(1) -> NO");
    }

    private static void refusedBy0(Edges e) {
        e.changesNothing("31: 0: refused: SHEET", SIZES, "gone(-1, 14) -> 0", "gone(4, 14) -> 0", "gone(MIN, 14) -> 0", "gone(MAX, 14) -> 0");
        e.changesNothing("31: 0: refused: missing", SIZES, "gone(1, 14) -> 0");
        e.changesNothing("31: 0: refused: missing, as all are at first", NEW, "gone(0, 14) -> 0", "gone(3, 14) -> 0");
        List<String> none = Edges.with(NEW, "sheet(0, 0, 23)", "sheet(1, 1, 25)", "sheet(2, 2, 0)", "sheet(3, 0, 24)");
        e.changesNothing("31: 0: refused: its size isn't 24", none, "gone(0, 14) -> 0", "gone(1, 14) -> 0", "gone(2, 14) -> 0", "gone(3, 14) -> 1");
        for (String cell : WILD) {
            e.changesNothing("31: 0: refused: no such CELL", none, "gone(3, " + cell + ") -> 0", "gone(0, " + cell + ") -> 0", "gone(4, " + cell + ") -> 0");
        }
    }

    /** A sheet of a sort that tells 1 from a second on. */
    private static List<String> from(List<String> story, int sort, int second) {
        List<String> told = new ArrayList<>(story);
        told.add("sheet(0, " + sort + ", 24)");
        for (int t = second; t < 24; t++) told.add("cell(0, " + t + ", 1)");
        return told;
    }

    private static void judge(Edges e) {
        for (int sort = 0; sort < 3; sort++) {
            e.answers("28: -1: none", from(FROM_7, sort, 7), "judge(0, 2) -> -1");
            e.answers("28: the first SECOND at which it is otherwise", from(FROM_7, sort, 9), "judge(0, 2) -> 7");
            e.answers("28: likewise", from(FROM_7, sort, 3), "judge(0, 2) -> 3");
            e.answers("28: SECOND 0", from(FROM_7, sort, 0), "judge(0, 2) -> 0", "judge(0, 8) -> -1", "judge(0, 35) -> 0");
            e.answers("28: never SEEN", from(FROM_7, sort, 24), "judge(0, 2) -> 7", "judge(0, 8) -> 0", "judge(0, 35) -> -1", "judge(0, 0) -> -1");
            e.answers("28: SECOND 23", Edges.with(from(FROM_7, sort, 7), "cell(0, 23, 0)"), "judge(0, 2) -> 23");
            e.changesNothing("28: what is asked changes nothing", from(FROM_7, sort, 9), "judge(0, 2) -> 7", "judge(0, 8) -> 0", "judge(0, 35) -> 9");
        }
        e.answers("28: the last SHEET", Edges.with(FROM_7, "film(3, 2)"), "judge(3, 2) -> -1", "judge(3, 8) -> 0");
        e.answers("28: it is told, not asked: things change", Edges.with(FROM_7, "film(0, 2)", "judge(0, 2)", "set(0, 0, 5)"), "judge(0, 2) -> 2", "set(0, 0, 0) -> 5", "judge(0, 2) -> -1");
        e.answers("28: a WALL is a CELL, too", Edges.with(WALLED, "sheet(0, 0, 24)"), "judge(0, 35) -> -1", "guard(1, 35, 0, 0) -> 0", "judge(0, 35) -> 0");
    }

    private static void judgeNumbers(Edges e) {
        for (String other : new String[] {"2", "-1", "MIN", "MAX", "3"}) {
            e.answers("28: (1, 0): neither of them is otherwise", Edges.with(from(FROM_7, 2, 7), "cell(0, 8, " + other + ")"), "judge(0, 2) -> 8");
            e.answers("28: (1, 0): neither of them is otherwise, not SEEN", Edges.with(from(FROM_7, 2, 7), "cell(0, 6, " + other + ")"), "judge(0, 2) -> 6");
        }
        e.answers("28: of bytes the lowest 8 bits", Edges.with(from(FROM_7, 0, 7), "cell(0, 8, 257)", "cell(0, 6, 256)"), "judge(0, 2) -> -1", "cell(0, 8, 255) -> 1", "judge(0, 2) -> 8");
        e.answers("28: of shorts the lowest 16 bits", Edges.with(from(FROM_7, 1, 7), "cell(0, 8, 65537)", "cell(0, 6, 65536)"), "judge(0, 2) -> -1", "cell(0, 8, 257) -> 1", "judge(0, 2) -> 8");
        e.answers("28: of ints all", Edges.with(from(FROM_7, 2, 7), "cell(0, 8, 65537)"), "judge(0, 2) -> 8", "cell(0, 8, 1) -> 1", "cell(0, 6, 65536) -> 1", "judge(0, 2) -> 6");
    }

    private static void which(Edges e) {
        e.answers("29: all CELLS", Edges.with(NEW, "sheet(0, 0, 24)"), "which(0) -> ALL");
        e.answers("29: WALLS, too", Edges.with(WALLED, "sheet(0, 0, 24)"), "which(0) -> ALL");
        e.answers("29: none", Edges.with(NEW, "sheet(0, 0, 24)", "cell(0, 23, 1)"), "which(0) -> 0");
        e.answers("29: one", from(FROM_7, 2, 7), "which(0) -> {2}");
        e.answers("29: of the first, the last CELL", List.of("guard(1, 0, 0, 0)", "guard(1, 35, 20, 0)", "film(3, 0)"), "which(3) -> {0 35}");
        e.changesNothing("29: what is asked changes nothing", from(FROM_7, 2, 7), "which(0) -> {2}");
    }

    private static void laws(Edges e) {
        List<String> three = Edges.with(from(FROM_7, 0, 7), "says(reach 1 ; sees 1 ; worth 1 ;)", "says(reach 0 ; sees 1 ; worth 1 ;)");
        e.answers("30: TEXTS (bits)", three, "laws(0, 2) -> 3", "laws(0, 35) -> 0", "laws(0, 8) -> 0", "sheet(0, 0, 24) -> 1", "laws(0, 2) -> 4", "laws(0, 35) -> 7");
        e.answers("30: were they THE LAW, whichever it is", Edges.with(three, "force(2)"), "laws(0, 2) -> 3", "count(5) -> 2", "watched(23) -> {8}");
        e.answers("30: TEXT 0 alone", from(FROM_7, 0, 7), "laws(0, 2) -> 1");
        e.answers("30: six TEXTS", Edges.with(Edges.FULL, "sheet(0, 0, 24)"), "laws(0, 33) -> 63", "laws(0, 1) -> 3", "laws(0, 5) -> 0");
        e.answers("30: the last of six", List.of("lay(0, ALL-{2})", "guard(1, 8, 30, 0)", "says(reach 0;sees 1;worth 1;)", "says(reach 1;sees 0;worth 1;)", "says(reach 1;sees 2=3;worth 1;)",
            "says(reach -1;sees 1;worth 1;)", "says(reach 1;sees second<23;worth 1;)", "force(5)", "film(0, 2)", "force(0)"), "laws(0, 2) -> 32");
        e.answers("30: of the first, the last CELL", Edges.with(Edges.FULL, "lay(0, ALL)", "film(0, 0)", "film(1, 35)"), "laws(0, 0) -> 63", "laws(1, 35) -> 63", "laws(1, 0) -> 0");
        e.answers("30: of the first CELL, never SEEN", Edges.with(NEW, "sheet(0, 0, 24)", "guard(1, 14, 0, 0)"), "laws(0, 0) -> 1", "gone(0, 0) -> 3", "judge(0, 0) -> -1", "laws(0, 14) -> 0");
        e.answers("30: no GUARDS", Edges.with(NEW, "sheet(0, 0, 24)"), "laws(0, 35) -> 1");
        e.answers("30: none", Edges.with(NEW, "sheet(0, 0, 24)", "cell(0, 0, 1)"), "laws(0, 35) -> 0");
        e.changesNothing("30: what is asked changes nothing", Edges.with(three, "force(1)"), "laws(0, 2) -> 3", "laws(0, 35) -> 0");
    }

    private static void gone(Edges e) {
        List<String> two = Edges.with(from(FROM_7, 0, 7), "guard(5, 8, 30, 9)");
        e.answers("31: sets of GUARDS (bits, as of bribes())", two, "gone(0, 2) -> 5", "gone(0, 35) -> 0", "gone(0, 8) -> 0", "sheet(0, 0, 24) -> 1", "gone(0, 2) -> 8", "gone(0, 35) -> 15", "gone(0, 8) -> 8");
        e.answers("31: nothing is SEEN by their standing in it", List.of("guard(1, 14, 10, 0)", "sheet(0, 0, 24)"), "gone(0, 14) -> 2", "gone(0, 20) -> 2", "gone(0, 0) -> 3");
        e.answers("31: no GUARDS: the empty set", Edges.with(NEW, "sheet(0, 0, 24)"), "gone(0, 0) -> 1");
        e.answers("31: 0: none", Edges.with(NEW, "sheet(0, 0, 24)", "cell(0, 23, 1)"), "gone(0, 0) -> 0");
        List<String> five = List.of("lay(0, ALL-{2})", "guard(1, 8, 30, 0)", "guard(1, 8, 30, 0)", "guard(1, 8, 30, 0)", "guard(1, 8, 30, 0)", "guard(1, 8, 30, 0)", "film(0, 2)", "sheet(1, 1, 24)");
        e.answers("31: all sets of five", five, "gone(1, 35) -> -1");
        e.answers("31: number 31 alone, all of five", five, "gone(1, 2) -> MIN");
        e.answers("31: all but that one", five, "gone(0, 2) -> MAX");
        e.changesNothing("31: what is asked changes nothing", two, "gone(0, 2) -> 5", "gone(0, 35) -> 0");
    }

    private static void filmRefused(Edges e) {
        e.refused("32: BAD: SHEET", RICH, "film(-1, 14) -> BAD", "film(4, 14) -> BAD", "film(MIN, 14) -> BAD", "film(MAX, 14) -> BAD");
        for (int s = 0; s < 4; s++) {
            for (String cell : WILD) {
                e.refused("32: -5: no such CELL", RICH, "film(" + s + ", " + cell + ") -> -5");
            }
        }
        e.refused("32: -5: no such CELL: missing it stays", NEW, "film(0, 36) -> -5", "film(3, -1) -> -5");
        e.refused("32: of several the first: SHEET, CELL", RICH, "film(4, 36) -> BAD", "film(-1, -1) -> BAD");
    }

    private static void film(Edges e) {
        for (int s = 0; s < 4; s++) {
            String now = "film(" + s + ", 14)";
            List<String> told = Edges.with(RICH, "sheet(" + s + ", 2, 24)");
            Called x = new Called(RICH);
            long alone = x.call("alone(14)");
            for (int t = 0; t < 24; t++) {
                told.add("cell(" + s + ", " + t + ", " + (1 - (alone >> t & 1)) + ")");
            }
            e.answers("32: 24", RICH, now + " -> 24", "judge(" + s + ", 14) -> -1");
            e.same("32: a SHEET truly becomes that of a CELL (24 ints), nothing else", Edges.with(RICH, now), told);
            e.answers("32: whatever it was: missing", Edges.with(FROM_7, "sheet(" + s + ", -1, 0)"), "film(" + s + ", 2) -> 24", "judge(" + s + ", 2) -> -1", "cell(" + s + ", 24, 0) -> -12");
        }
        e.answers("32: whatever it was: longer, bytes", Edges.with(FROM_7, "sheet(0, 0, 40)", "cell(0, 23, 7)"), "film(0, 2) -> 24", "judge(0, 2) -> -1", "cell(0, 24, 0) -> -12", "cell(0, 0, 256) -> 1", "judge(0, 2) -> 0");
        e.answers("32: whatever it was: of none", Edges.with(FROM_7, "sheet(0, 1, 0)"), "film(0, 2) -> 24", "judge(0, 2) -> -1", "guardsBy(0, 1, 0, 0) -> -13", "guardsBy(0, 2, 0, 0) -> 0");
        e.answers("32: of the first, the last CELL, of a WALL", Edges.with(WALLED, "guard(1, 35, 0, 0)"), "film(0, 0) -> 24", "film(1, 35) -> 24", "which(0) -> ALL-{35}", "which(1) -> {35}");
        e.answers("32: what is asked later is told as it was", Edges.with(FROM_7, "film(0, 2)", "set(0, 0, 1)"), "judge(0, 2) -> 6", "film(1, 2) -> 24", "judge(1, 2) -> -1", "judge(0, 2) -> 6");
        e.answers("32: what is seen then, just changed", Edges.with(FROM_7, "film(0, 2)", "put(2, 0, 1)", "film(0, 2)"), "judge(0, 2) -> -1", "which(0) -> ALL-{8}");
    }
}
