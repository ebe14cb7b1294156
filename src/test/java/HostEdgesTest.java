import java.util.ArrayList;
import java.util.List;

/** The boundaries of promises 37 to 41, and of the terms that they use (SHEETS, REFUSALS). */
public final class HostEdgesTest {
    private static final List<String> NEW = Edges.NEW, RICH = Edges.RICH, FULL = Edges.FULL;
    private static final String[] NO_SHEET = {"-1", "4", "MIN", "MAX"};

    public static void main(String[] args) {
        Edges e = new Edges("HostEdgesTest");
        sheetRefused(e);
        sheet(e);
        cellRefused(e);
        cell(e);
        copyRefused(e);
        copyOfSeveralTheFirst(e);
        copyOutside(e);
        copy(e);
        guardsByRefused(e);
        guardsByOfSeveralTheFirst(e);
        guardsByOutside(e);
        guardsBy(e);
        takenRefused(e);
        taken(e);
        takenOfEachKind(e);
        e.end();
    }

    private static void sheetRefused(Edges e) {
        for (String s : NO_SHEET) {
            e.refused("37: BAD: SHEET", RICH, "sheet(" + s + ", 0, 8) -> BAD", "sheet(" + s + ", -1, 8) -> BAD");
            e.refused("37: of several the first: SHEET, below 0", RICH, "sheet(" + s + ", 0, -1) -> BAD", "sheet(" + s + ", 2, MIN) -> BAD");
        }
        for (int s = 0; s < 4; s++) {
            e.refused("37: BAD: sort", RICH, "sheet(" + s + ", -2, 8) -> BAD", "sheet(" + s + ", 3, 8) -> BAD", "sheet(" + s + ", MIN, 8) -> BAD", "sheet(" + s + ", MAX, 8) -> BAD");
            e.refused("37: of several the first: sort, below 0", RICH, "sheet(" + s + ", 3, -1) -> BAD", "sheet(" + s + ", -2, -1) -> BAD", "sheet(" + s + ", 3, MIN) -> BAD");
            e.refused("37: BAD: sort, of size 0, too", RICH, "sheet(" + s + ", 3, 0) -> BAD", "sheet(" + s + ", -2, 0) -> BAD");
            for (int sort = 0; sort < 3; sort++) {
                e.refused("37: BAD: n above 40", RICH, "sheet(" + s + ", " + sort + ", 41) -> BAD", "sheet(" + s + ", " + sort + ", MAX) -> BAD");
                e.refused("37: -14", RICH, "sheet(" + s + ", " + sort + ", -1) -> -14", "sheet(" + s + ", " + sort + ", MIN) -> -14");
            }
        }
        e.refused("37: by a refusal a missing one stays missing", NEW, "sheet(0, 0, 41) -> BAD", "sheet(0, 0, -1) -> -14", "sheet(3, 3, 8) -> BAD");
    }

    private static void sheet(Edges e) {
        for (int s = 0; s < 4; s++) {
            for (int sort = 0; sort < 3; sort++) {
                String begin = "sheet(" + s + ", " + sort + ", ", cell = "cell(" + s + ", ";
                e.answers("37: 40 at most", NEW, begin + "40) -> 1", cell + "39, 1) -> 1", cell + "40, 1) -> -12");
                e.answers("37: 0 at least", NEW, begin + "0) -> 1", cell + "0, 1) -> -12");
                e.answers("37: 1", NEW, begin + "1) -> 1", cell + "0, 1) -> 1", cell + "1, 1) -> -12");
                e.answers("37: all 0", NEW, begin + "24) -> 1", "which(" + s + ") -> ALL", cell + "5, 1) -> 1", "which(" + s + ") -> 0", begin + "24) -> 1", "which(" + s + ") -> ALL");
                e.same("37: all 0: what was longer is forgotten", Edges.with(NEW, begin + "40)", cell + "30, 9)", cell + "1, 9)", begin + "3)", begin + "40)"), Edges.with(NEW, begin + "40)"));
                for (int was = 0; was < 3; was++) {
                    e.same("37: of another sort", Edges.with(NEW, "sheet(" + s + ", " + was + ", 30)", cell + "2, 9)", begin + "12)"), Edges.with(NEW, begin + "12)"));
                }
            }
            for (String n : new String[] {"0", "1", "40", "41", "-1", "MIN", "MAX"}) {
                e.answers("37: missing (sort -1: n does not matter)", RICH, "sheet(" + s + ", -1, " + n + ") -> 1", "cell(" + s + ", 0, 0) -> -11", "which(" + s + ") -> NO");
                e.same("37: missing (sort -1: n does not matter)", Edges.with(RICH, "sheet(" + s + ", -1, " + n + ")"), Edges.with(RICH, "sheet(" + s + ", -1, 3)"));
            }
            e.same("37: missing as at first", Edges.with(NEW, "sheet(" + s + ", 2, 24)", "sheet(" + s + ", -1, 0)"), NEW);
            e.changesNothing("37: missing already", NEW, "sheet(" + s + ", -1, 8) -> 1");
        }
        e.answers("37: the others stay", RICH, "sheet(0, 1, 5) -> 1", "cell(1, 8, 7) -> 1", "cell(1, 9, 7) -> -12", "cell(2, 0, 0) -> -11", "cell(3, 23, 1) -> 1", "judge(3, 14) -> 0", "judge(3, 0) -> 0");
    }

    private static void cellRefused(Edges e) {
        for (String s : NO_SHEET) {
            e.refused("38: BAD: SHEET", RICH, "cell(" + s + ", 0, 9) -> BAD");
            e.refused("38: of several the first: SHEET, outside", RICH, "cell(" + s + ", -1, 9) -> BAD", "cell(" + s + ", 40, 9) -> BAD");
        }
        e.refused("38: -11", RICH, "cell(2, 0, 9) -> -11");
        e.refused("38: -11, at first", NEW, "cell(0, 0, 9) -> -11", "cell(3, 0, 9) -> -11");
        e.refused("38: of several the first: missing, outside", RICH, "cell(2, -1, 9) -> -11", "cell(2, 40, 9) -> -11", "cell(2, MAX, 9) -> -11");
        e.refused("38: -12", RICH, "cell(0, -1, 9) -> -12", "cell(0, 24, 9) -> -12", "cell(1, 9, 9) -> -12", "cell(3, 24, 9) -> -12", "cell(0, MIN, 9) -> -12", "cell(0, MAX, 9) -> -12");
        e.refused("38: -12: of none", Edges.with(NEW, "sheet(0, 2, 0)"), "cell(0, 0, 9) -> -12", "cell(0, -1, 9) -> -12");
        e.refused("38: -12: of 40", FULL, "cell(0, 40, 9) -> -12", "cell(2, 40, 9) -> -12", "cell(2, -1, 9) -> -12");
        e.refused("38: -12: though it was longer once", Edges.with(NEW, "sheet(0, 2, 40)", "sheet(0, 2, 4)"), "cell(0, 4, 9) -> -12", "cell(0, 39, 9) -> -12");
    }

    /** What a number has become, told as the home of a guard; BAD of him: none that can be one. */
    private static void becomes(Edges e, int sort, String v, int home) {
        String[] rows = home < 0 ? new String[] {"guardsBy(0, " + sort + ", 0, 1) -> 0", "count(0) -> 0"}
            : new String[] {"guardsBy(0, " + sort + ", 0, 1) -> 1", "guardTold(0, 3) -> " + home};
        e.answers("38: number i becomes v, of sort " + sort + ": " + v, Edges.with(NEW, "sheet(0, " + sort + ", 4)", "cell(0, 1, " + v + ")"), rows);
    }

    private static void cell(Edges e) {
        int[][] told = {{0, 0, 0, 0}, {35, 35, 35, 35}, {-1, -1, -1, -1}, {36, -1, -1, -1}, {255, -1, -1, -1}, {256, 0, -1, -1}, {261, 5, -1, -1}, {-251, 5, -1, -1}, {127, -1, -1, -1}, {128, -1, -1, -1},
            {65535, -1, -1, -1}, {65536, 0, 0, -1}, {65541, 5, 5, -1}, {-65531, 5, 5, -1}, {32773, 5, -1, -1}, {65536 * 3 + 256 + 7, 7, -1, -1}, {1 << 24 | 9, 9, 9, -1},
            {Integer.MIN_VALUE, 0, 0, -1}, {Integer.MIN_VALUE + 35, 35, 35, -1}, {Integer.MAX_VALUE, -1, -1, -1}};
        for (int[] row : told) {
            for (int sort = 0; sort < 3; sort++) becomes(e, sort, "" + row[0], row[1 + sort]);
        }
        for (int sort = 0; sort < 3; sort++) {
            e.answers("38: the first, the last place", Edges.with(NEW, "sheet(3, " + sort + ", 40)"), "cell(3, 0, 1) -> 1", "cell(3, 39, 1) -> 1", "cell(3, 40, 1) -> -12");
            e.same("38: that number alone", Edges.with(NEW, "sheet(0, " + sort + ", 12)", "cell(0, 5, 9)", "cell(0, 5, 0)"), Edges.with(NEW, "sheet(0, " + sort + ", 12)"));
            e.unlike("38: that number", Edges.with(NEW, "sheet(0, " + sort + ", 12)", "cell(0, 5, 9)"), Edges.with(NEW, "sheet(0, " + sort + ", 12)", "cell(0, 6, 9)"));
        }
    }

    private static void copyRefused(Edges e) {
        for (String s : NO_SHEET) {
            e.refused("39: BAD: SHEETS", RICH, "copy(" + s + ", 0, 0, 0, 1) -> BAD", "copy(0, 0, " + s + ", 0, 1) -> BAD", "copy(" + s + ", 0, " + s + ", 0, 0) -> BAD");
            e.refused("39: of several the first: SHEETS, missing", RICH, "copy(" + s + ", 0, 2, 0, 1) -> BAD", "copy(2, 0, " + s + ", 0, 1) -> BAD");
            e.refused("39: of several the first: SHEETS, outside", RICH, "copy(" + s + ", 99, 0, 0, 1) -> BAD", "copy(0, 0, " + s + ", 0, -1) -> BAD");
        }
        e.refused("39: -11", RICH, "copy(2, 0, 0, 0, 1) -> -11", "copy(0, 0, 2, 0, 1) -> -11", "copy(2, 0, 2, 0, 0) -> -11", "copy(2, 0, 1, 0, 0) -> -11", "copy(3, 0, 2, 0, 0) -> -11");
        e.refused("39: -11, at first", NEW, "copy(0, 0, 1, 0, 0) -> -11");
        String[] unlike = {"0, 0, 1, 0, ", "1, 0, 0, 0, ", "0, 0, 3, 0, ", "3, 0, 0, 0, ", "1, 0, 3, 0, ", "3, 0, 1, 0, "};
        for (String two : unlike) {
            e.refused("39: -13: unlike sorts", RICH, "copy(" + two + "1) -> -13", "copy(" + two + "0) -> -13");
        }
    }

    private static void copyOfSeveralTheFirst(Edges e) {
        String[] outside = {"99, %, 0, 1)", "0, %, 99, 1)", "-1, %, 0, 1)", "0, %, -1, 1)", "0, %, 0, 99)", "0, %, 0, -1)"};
        for (String end : outside) {
            e.refused("39: of several the first: missing, outside", RICH, "copy(2, " + end.replace("%", "0") + " -> -11", "copy(0, " + end.replace("%", "2") + " -> -11", "copy(2, " + end.replace("%", "2") + " -> -11");
            e.refused("39: of several the first: unlike sorts, outside", RICH, "copy(0, " + end.replace("%", "1") + " -> -13", "copy(3, " + end.replace("%", "0") + " -> -13", "copy(1, " + end.replace("%", "3") + " -> -13");
            e.refused("39: of several the first: SHEETS, outside", RICH, "copy(4, " + end.replace("%", "0") + " -> BAD", "copy(0, " + end.replace("%", "4") + " -> BAD");
        }
    }

    private static void copyOutside(Edges e) {
        List<String> two = Edges.with(RICH, "sheet(2, 2, 10)", "cell(2, 0, 8)", "cell(2, 9, 9)");
        e.refused("39: -12: n below 0", two, "copy(0, 0, 2, 0, -1) -> -12", "copy(0, 5, 2, 5, -5) -> -12", "copy(0, 0, 2, 0, MIN) -> -12", "copy(0, 24, 0, 24, -1) -> -12");
        e.refused("39: -12: i", two, "copy(0, -1, 2, 0, 1) -> -12", "copy(0, 24, 2, 0, 1) -> -12", "copy(0, 20, 2, 0, 5) -> -12", "copy(0, MIN, 2, 0, 1) -> -12", "copy(0, MAX, 2, 0, 1) -> -12", "copy(0, MAX, 2, 0, 10) -> -12");
        e.refused("39: -12: j", two, "copy(0, 0, 2, -1, 1) -> -12", "copy(0, 0, 2, 10, 1) -> -12", "copy(0, 0, 2, 6, 5) -> -12", "copy(0, 0, 2, MIN, 1) -> -12", "copy(0, 0, 2, MAX, 1) -> -12", "copy(0, 0, 2, MAX, 10) -> -12");
        e.refused("39: -12: n", two, "copy(0, 0, 2, 0, 11) -> -12", "copy(2, 0, 0, 0, 11) -> -12", "copy(0, 0, 0, 0, 25) -> -12", "copy(0, 1, 0, 1, MAX) -> -12", "copy(0, 0, 2, 0, MAX) -> -12");
        e.refused("39: -12: of none (n 0), too", two, "copy(0, -1, 2, 0, 0) -> -12", "copy(0, 25, 2, 0, 0) -> -12", "copy(0, 0, 2, -1, 0) -> -12", "copy(0, 0, 2, 11, 0) -> -12", "copy(0, MIN, 2, 0, 0) -> -12", "copy(0, 0, 2, MAX, 0) -> -12");
        e.refused("39: -12: its own", two, "copy(0, 0, 0, 1, 24) -> -12", "copy(0, 1, 0, 0, 24) -> -12", "copy(0, 23, 0, 0, 2) -> -12");
        e.refused("39: -12: though they were longer once", Edges.with(NEW, "sheet(0, 2, 40)", "sheet(0, 2, 4)", "sheet(1, 2, 40)"), "copy(0, 0, 1, 0, 5) -> -12", "copy(1, 0, 0, 0, 5) -> -12", "copy(0, 4, 1, 0, 1) -> -12");
        e.changesNothing("39: n 0 changes nothing", two, "copy(0, 0, 2, 0, 0) -> 0", "copy(0, 24, 2, 10, 0) -> 0", "copy(2, 10, 0, 24, 0) -> 0", "copy(0, 7, 0, 9, 0) -> 0");
        e.changesNothing("39: onto itself", two, "copy(0, 0, 0, 0, 24) -> 24", "copy(1, 2, 1, 2, 5) -> 5", "copy(3, 23, 3, 23, 1) -> 1");
        e.changesNothing("39: n 0 of sheets of none", Edges.with(NEW, "sheet(0, 0, 0)", "sheet(1, 0, 0)"), "copy(0, 0, 1, 0, 0) -> 0", "copy(1, 0, 1, 0, 0) -> 0");
    }

    /** The calls by which a sheet has some numbers. */
    private static List<String> row(int s, int sort, int... numbers) {
        List<String> story = new ArrayList<>(List.of("sheet(" + s + ", " + sort + ", " + numbers.length + ")"));
        for (int i = 0; i < numbers.length; i++) story.add("cell(" + s + ", " + i + ", " + numbers[i] + ")");
        return story;
    }

    private static List<String> both(List<String> one, List<String> other) {
        return Edges.with(one, other.toArray(new String[0]));
    }

    private static void copy(Edges e) {
        for (int sort = 0; sort < 3; sort++) {
            List<String> one = row(0, sort, 1, 2, 3, 4, 5, 6), two = both(one, row(1, sort, 11, 12, 13, 14));
            e.answers("39: n", two, "copy(0, 0, 1, 0, 4) -> 4", "copy(0, 5, 1, 3, 1) -> 1", "copy(1, 0, 0, 2, 4) -> 4", "copy(0, 0, 0, 0, 6) -> 6");
            e.same("39: from i on, to the other's place j", Edges.with(two, "copy(0, 2, 1, 1, 3)"), both(one, row(1, sort, 11, 3, 4, 5)));
            e.same("39: the last one", Edges.with(two, "copy(0, 5, 1, 3, 1)"), both(one, row(1, sort, 11, 12, 13, 6)));
            e.same("39: all of it", Edges.with(two, "copy(1, 0, 0, 2, 4)"), both(row(0, sort, 1, 2, 11, 12, 13, 14), row(1, sort, 11, 12, 13, 14)));
            e.same("39: its own, as they were: farther", Edges.with(one, "copy(0, 0, 0, 1, 5)"), row(0, sort, 1, 1, 2, 3, 4, 5));
            e.same("39: its own, as they were: nearer", Edges.with(one, "copy(0, 1, 0, 0, 5)"), row(0, sort, 2, 3, 4, 5, 6, 6));
            e.same("39: its own, as they were: by two", Edges.with(one, "copy(0, 0, 0, 2, 4)"), row(0, sort, 1, 2, 1, 2, 3, 4));
            e.same("39: a row of its own it stays", Edges.with(two, "copy(0, 0, 1, 0, 4)", "cell(0, 0, 30)", "cell(1, 1, 31)"), both(row(0, sort, 30, 2, 3, 4, 5, 6), row(1, sort, 1, 31, 3, 4)));
        }
        e.answers("39: 40 of them", Edges.with(NEW, "sheet(0, 2, 40)", "sheet(3, 2, 40)"), "copy(0, 0, 3, 0, 40) -> 40", "copy(0, 0, 3, 0, 41) -> -12", "copy(0, 0, 3, 1, 40) -> -12");
    }

    private static final String GOOD_FOUR = "3, 14, 12, 5";

    private static void guardsByRefused(Edges e) {
        for (String s : NO_SHEET) {
            e.refused("40: BAD: SHEET", RICH, "guardsBy(" + s + ", 0, 0, 1) -> BAD", "guardsBy(" + s + ", 0, 0, 0) -> BAD");
        }
        e.refused("40: BAD: sort", RICH, "guardsBy(1, -1, 0, 1) -> BAD", "guardsBy(1, 3, 0, 1) -> BAD", "guardsBy(1, MIN, 0, 0) -> BAD", "guardsBy(1, MAX, 0, 0) -> BAD");
        e.refused("40: BAD: n", RICH, "guardsBy(1, 0, 0, -1) -> BAD", "guardsBy(1, 0, 0, 6) -> BAD", "guardsBy(1, 0, 0, MIN) -> BAD", "guardsBy(1, 0, 0, MAX) -> BAD");
        e.refused("40: -11", RICH, "guardsBy(2, 0, 0, 1) -> -11", "guardsBy(2, 1, 0, 1) -> -11", "guardsBy(2, 2, 0, 0) -> -11");
        e.refused("40: -11, at first", NEW, "guardsBy(0, 0, 0, 0) -> -11", "guardsBy(3, 2, 0, 1) -> -11");
        e.refused("40: -13", RICH, "guardsBy(0, 0, 0, 1) -> -13", "guardsBy(0, 1, 0, 1) -> -13", "guardsBy(1, 1, 0, 1) -> -13", "guardsBy(1, 2, 0, 1) -> -13", "guardsBy(3, 0, 0, 1) -> -13", "guardsBy(3, 2, 0, 1) -> -13",
            "guardsBy(3, 0, 0, 0) -> -13");
    }

    private static void guardsByOfSeveralTheFirst(Edges e) {
        e.refused("40: of several the first: sort, missing", RICH, "guardsBy(2, 3, 0, 1) -> BAD", "guardsBy(2, -1, 0, 1) -> BAD");
        e.refused("40: of several the first: n, missing", RICH, "guardsBy(2, 0, 0, 6) -> BAD", "guardsBy(2, 0, 0, -1) -> BAD");
        e.refused("40: of several the first: n, another sort", RICH, "guardsBy(1, 1, 0, 6) -> BAD", "guardsBy(1, 2, 0, -1) -> BAD");
        e.refused("40: of several the first: SHEET, sort, n, outside", RICH, "guardsBy(4, 0, 99, 1) -> BAD", "guardsBy(1, 3, 99, 1) -> BAD", "guardsBy(1, 0, 99, 6) -> BAD", "guardsBy(1, 0, -1, -1) -> BAD");
        e.refused("40: of several the first: missing, outside", RICH, "guardsBy(2, 0, 99, 1) -> -11", "guardsBy(2, 0, -1, 1) -> -11");
        e.refused("40: of several the first: another sort, outside", RICH, "guardsBy(1, 1, 99, 1) -> -13", "guardsBy(1, 2, -1, 1) -> -13", "guardsBy(0, 0, 24, 1) -> -13");
    }

    private static void guardsByOutside(Edges e) {
        for (int sort = 0; sort < 3; sort++) {
            List<String> seven = row(0, sort, 3, 14, 12, 5, 4, 21, 30);
            String by = "guardsBy(0, " + sort + ", ";
            e.refused("40: -12: place", seven, by + "-1, 1) -> -12", by + "-4, 1) -> -12", by + "-4, 2) -> -12", by + "4, 1) -> -12", by + "7, 1) -> -12", by + "8, 1) -> -12", by + "40, 1) -> -12", by + "MIN, 1) -> -12",
                by + "MAX, 1) -> -12", by + "MAX, 5) -> -12");
            for (int n = 2; n < 6; n++) {
                e.same("40: -12: what stood ahead came", Edges.with(seven, by + "0, " + n + ")"), Edges.with(seven, "guard(3, 14, 12, 5)"));
                e.answers("40: -12: what stood ahead came", seven, by + "0, " + n + ") -> -12", "count(0) -> 1", "guardTold(0, 2) -> 3", "guardTold(0, 3) -> 14");
            }
        }
        List<String> fifteen = row(0, 2, 3, 14, 12, 5, 6, 0, 0, 0, 4, 21, 30, 9, 1, 2, 3);
        e.same("40: -12: what stood ahead came, but what is left out", Edges.with(fifteen, "guardsBy(0, 2, 0, 4)"), Edges.with(fifteen, "guard(3, 14, 12, 5)", "guard(4, 21, 30, 9)"));
        e.answers("40: -12: of a SHEET of none", row(0, 2), "guardsBy(0, 2, 0, 1) -> -12", "guardsBy(0, 2, 0, 0) -> 0", "count(0) -> 0");
        e.answers("40: -12: though it was longer once", Edges.with(NEW, "sheet(0, 2, 40)", "sheet(0, 2, 3)"), "guardsBy(0, 2, 0, 1) -> -12", "guardsBy(0, 2, 3, 1) -> -12", "count(0) -> 0");
        e.answers("40: -12: the end of 40", Edges.with(NEW, "sheet(0, 2, 40)"), "guardsBy(0, 2, 37, 1) -> -12", "guardsBy(0, 2, 36, 2) -> -12", "count(0) -> 1", "guardsBy(0, 2, 36, 1) -> 1", "guardsBy(0, 2, 39, 1) -> -12",
            "guardsBy(0, 2, 40, 1) -> -12", "count(0) -> 2");
        e.refused("40: -12: full, too", FULL, "guardsBy(0, 0, 37, 1) -> -12", "guardsBy(0, 0, 36, 2) -> -12", "guardsBy(0, 0, -1, 1) -> -12", "guardsBy(0, 0, 40, 1) -> -12");
        e.changesNothing("40: n 0: none came", RICH, "guardsBy(1, 0, 0, 0) -> 0", "guardsBy(3, 1, 0, 0) -> 0", "guardsBy(0, 2, 24, 0) -> 0");
    }

    private static void guardsBy(Edges e) {
        for (int sort = 0; sort < 3; sort++) {
            List<String> two = row(0, sort, 9, 3, 14, 12, 5, 5, 35, 35, 9);
            String by = "guardsBy(0, " + sort + ", ";
            e.same("40: from a place on, four by four (as of guard())", Edges.with(two, by + "1, 2)"), Edges.with(two, "guard(3, 14, 12, 5)", "guard(5, 35, 35, 9)"));
            e.same("40: n of them", Edges.with(two, by + "1, 1)"), Edges.with(two, "guard(3, 14, 12, 5)"));
            e.same("40: the last four", Edges.with(two, by + "5, 1)"), Edges.with(two, "guard(5, 35, 35, 9)"));
            e.answers("40: how many came", two, by + "1, 2) -> 2", by + "5, 1) -> 1", by + "1, 0) -> 0", by + "1, 1) -> 1", "count(0) -> 4");
        }
        String[] bad = {"6, 0, 0, 0", "-1, 0, 0, 0", "0, 36, 0, 0", "0, -1, 0, 0", "0, 0, 40, 0", "0, 0, 6, 0", "0, 0, -1, 0", "0, 0, 0, 10", "0, 0, 0, -1"};
        for (String four : bad) {
            List<String> story = new ArrayList<>(List.of("sheet(0, 2, 12)"));
            String[] all = (four + ", " + GOOD_FOUR + ", " + four).split(", ");
            for (int i = 0; i < 12; i++) story.add("cell(0, " + i + ", " + all[i] + ")");
            e.answers("40: others are left out: " + four, story, "guardsBy(0, 2, 0, 1) -> 0", "guardsBy(0, 2, 0, 3) -> 1", "count(0) -> 1");
            e.same("40: others are left out: " + four, Edges.with(story, "guardsBy(0, 2, 0, 3)"), Edges.with(story, "guard(" + GOOD_FOUR + ")"));
        }
        List<String> twenty = Edges.with(NEW, "sheet(0, 2, 20)");
        e.answers("40: n 5", twenty, "guardsBy(0, 2, 0, 5) -> 5", "count(0) -> 5", "guardsBy(0, 2, 0, 5) -> 0", "guardsBy(0, 2, 0, 1) -> 0", "count(0) -> 5");
        e.answers("40: full: others are left out", Edges.with(twenty, "guard(0, 1, 0, 0)", "guard(0, 2, 0, 0)", "guard(0, 3, 0, 0)"), "guardsBy(0, 2, 0, 5) -> 2", "count(0) -> 5", "guardTold(2, 3) -> 3", "guardTold(3, 3) -> 0");
        e.answers("40: -12 ahead of how many came, full", Edges.with(twenty, "guardsBy(0, 2, 0, 5)"), "guardsBy(0, 2, 4, 5) -> -12", "count(0) -> 5");
        e.changesNothing("40: full: none came", FULL, "guardsBy(0, 0, 0, 5) -> 0", "guardsBy(2, 2, 4, 1) -> 0", "guardsBy(3, 2, 0, 1) -> 0");
        e.same("40: the SHEET stays, what is seen follows", Edges.with(RICH, "watched(0)", "guardsBy(3, 1, 8, 1)"), Edges.with(RICH, "guard(0, 0, 0, 0)"));
    }

    private static void takenRefused(Edges e) {
        for (int i : new int[] {0, 9, 14, 35, 36, 38, 40}) {
            e.refused("41: BAD: kind", RICH, "taken(" + i + ", -1) -> BAD", "taken(" + i + ", 7) -> BAD", "taken(" + i + ", MIN) -> BAD", "taken(" + i + ", MAX) -> BAD");
        }
        for (int kind = 0; kind < 7; kind++) {
            e.refused("41: -12: i", RICH, "taken(-1, " + kind + ") -> -12", "taken(41, " + kind + ") -> -12", "taken(MIN, " + kind + ") -> -12", "taken(MAX, " + kind + ") -> -12");
            e.refused("41: -11: nothing lies there", RICH, "taken(2, " + kind + ") -> -11", "taken(34, " + kind + ") -> -11", "taken(39, " + kind + ") -> -11", "taken(40, " + kind + ") -> -11");
            e.refused("41: -11: nothing lies there, at first", NEW, "taken(0, " + kind + ") -> -11", "taken(35, " + kind + ") -> -11", "taken(36, " + kind + ") -> -11", "taken(40, " + kind + ") -> -11");
            e.refused("41: -12: i, of five", FULL, "taken(41, " + kind + ") -> -12", "taken(-1, " + kind + ") -> -12");
            if (kind < 6) {
                e.refused("41: -13: a CELL taken for a GUARD", RICH, "taken(9, " + kind + ") -> -13", "taken(0, " + kind + ") -> -13", "taken(35, " + kind + ") -> -13");
            }
        }
        e.refused("41: -13: a GUARD taken for a CELL", RICH, "taken(36, 6) -> -13", "taken(37, 6) -> -13", "taken(38, 6) -> -13");
        e.refused("41: -13: a GUARD taken for another KIND", RICH, "taken(36, 1) -> -13", "taken(37, 3) -> -13", "taken(38, 2) -> -13");
        e.refused("41: of several the first: kind, place", RICH, "taken(-1, 7) -> BAD", "taken(41, -1) -> BAD");
        e.refused("41: of several the first: kind, nothing there", RICH, "taken(2, 7) -> BAD", "taken(40, -1) -> BAD");
        e.changesNothing("41: what is asked changes nothing", RICH, "taken(9, 6) -> 1", "taken(37, 2) -> 1");
    }

    private static void taken(Edges e) {
        for (int c : new int[] {0, 5, 14, 35}) {
            for (int sum = 1; sum < 8; sum++) {
                List<String> story = List.of("put(" + c + ", 0, " + (sum & 1) + ")", "put(" + c + ", 1, " + (sum >> 1 & 1) + ")", "put(" + c + ", 2, " + (sum >> 2) + ")");
                e.answers("41: 6 a CELL: 1 for a WALL, 2 for a LAMP, 4 for a MIRROR, together", story, "taken(" + c + ", 6) -> " + sum, "taken(" + c + ", 0) -> -13", "taken(" + c + ", 5) -> -13");
            }
            e.answers("41: of none nothing lies there", List.of("put(" + c + ", 2, 1)", "put(" + c + ", 2, 0)"), "taken(" + c + ", 6) -> -11");
        }
        e.answers("41: a GUARD who stands there does not lie there", List.of("guard(0, 14, 0, 0)"), "taken(14, 6) -> -11", "taken(14, 0) -> -11", "taken(36, 0) -> 0");
    }

    private static void takenOfEachKind(Edges e) {
        String[] kinds = {"0", "0 1", "0 2", "0 1 3", "0 2 4", "0 5"};
        for (int is = 0; is < 6; is++) {
            for (int kind = 0; kind < 7; kind++) {
                boolean one = (" " + kinds[is] + " ").contains(" " + kind + " ");
                e.answers("41: a GUARD of that KIND (also of one that is one): " + is + " as " + kind, List.of("guard(" + is + ", 14, 12, 3)"), "taken(36, " + kind + ") -> " + (one ? 0 : -13));
                e.answers("41: his number", List.of("guard(0, 0, 0, 0)", "guard(0, 0, 0, 0)", "guard(0, 0, 0, 0)", "guard(0, 0, 0, 0)", "guard(" + is + ", 14, 12, 3)"), "taken(40, " + kind + ") -> " + (one ? 4 : -13));
            }
        }
        e.answers("41: 36 .. 40 GUARDS", FULL, "taken(36, 0) -> 0", "taken(37, 0) -> 1", "taken(38, 0) -> 2", "taken(39, 0) -> 3", "taken(40, 0) -> 4", "taken(41, 0) -> -12");
    }
}
