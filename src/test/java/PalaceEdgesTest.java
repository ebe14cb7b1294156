import java.util.List;

/** The boundaries of promises 1 to 6, and of the terms that they use. */
public final class PalaceEdgesTest {
    private static final List<String> NEW = Edges.NEW, RICH = Edges.RICH, FULL = Edges.FULL;

    public static void main(String[] args) {
        Edges e = new Edges("PalaceEdgesTest");
        newObject(e);
        mostCalls(e);
        lay(e);
        laid(e);
        put(e);
        count(e);
        feed(e);
        feedTillFull(e);
        e.end();
    }

    private static void newObject(Edges e) {
        e.answers("1: no WALLS", NEW, "laid(0) -> 0", "count(1) -> 0");
        e.answers("1: no GUARDS", NEW, "count(0) -> 0", "guardTold(0, 0) -> -5", "watched(0) -> 0", "taken(36, 0) -> -11");
        e.answers("1: LAMPS, MIRRORS: none at first", NEW, "laid(1) -> 0", "laid(2) -> 0", "count(2) -> 0", "count(3) -> 0");
        e.answers("1: TEXT 0, at first", NEW, "count(4) -> 1", "force(0) -> 0", "force(1) -> BAD");
        e.answers("1: TEXT 0 is THE LAW at first", NEW, "count(5) -> 0");
        e.answers("1: TEXT 0: reach 3", NEW, "asks(0, 0, 0, 0, 0) -> 3", "asks(0, 99, 9, 23, 999) -> 3");
        e.answers("1: TEXT 0: sees lit or far < 2", NEW, "asks(1, 0, 0, 0, 0) -> 1", "asks(1, 10, 0, 0, 0) -> 1",
            "asks(1, 20, 0, 0, 0) -> 0", "asks(1, 21, 0, 0, 0) -> 1", "asks(1, 99, 9, 23, 999) -> 1", "asks(1, 90, 9, 23, 999) -> 0");
        e.answers("1: TEXT 0: worth 1", NEW, "asks(2, 0, 0, 0, 0) -> 1", "asks(2, 99, 9, 23, 999) -> 1");
        e.answers("1: the tape is empty at first", NEW, "count(6) -> 0", "text() -> -100");
        for (int s = 0; s < 4; s++) {
            e.answers("1: SHEETS are missing, as all are at first", NEW, "cell(" + s + ", 0, 0) -> -11", "judge(" + s + ", 0) -> -11");
        }
        e.answers("1: no IMAGE at first", NEW, "back() -> STATE");
        e.same("1: what other objects went through does not matter", NEW, Edges.with(NEW, "count(0)"));
        long[] before = Everything.of(NEW);
        Everything.of(FULL);
        Everything.of(RICH);
        if (Everything.firstOther(before, Everything.of(NEW)) != null) throw new IllegalStateException("1: objects share something");
    }

    /** An object answers 512 calls; here the dearest of them, all but the first. */
    private static void mostCalls(Edges e) {
        String[] dear = {"more(0, 35, 0) -> -1", "mean(99999, 12, 0) -> 24", "bribes(ALL, 23) -> 0", "worst(3) -> 720", "shift(2, 1) -> 24", "hides(35, 0, 24) -> ALL-{6 7 13 14 20 21}"};
        String[] rows = new String[507];
        for (int i = 0; i < rows.length; i++) rows[i] = dear[i % dear.length];
        e.answers("an object is used for 512 calls", List.of("guard(1, 7, 0, 0)", "guard(1, 14, 0, 0)", "guard(1, 21, 0, 0)", "says(!)"), rows);
    }

    private static void lay(Edges e) {
        for (int what = 0; what < 3; what++) {
            String lay = "lay(" + what + ", ", laid = "laid(" + what + ") -> ";
            e.answers("2: which were", NEW, lay + "{0 35}) -> 0", lay + "{1}) -> {0 35}", lay + "{1}) -> {1}", laid + "{1}");
            e.answers("2: none", NEW, lay + "{7 8}) -> 0", lay + "0) -> {7 8}", laid + "0", lay + "{2}) -> 0");
            e.answers("2: all", NEW, lay + "ALL) -> 0", laid + "ALL", lay + "ALL) -> ALL", lay + "0) -> ALL");
            e.answers("2: bit 35, the last", NEW, lay + "{35}) -> 0", laid + "{35}", lay + "{34}) -> {35}", laid + "{34}");
            e.refused("2: NO: bits above 35", RICH, lay + "{36}) -> NO", lay + "{35 36}) -> NO", lay + "{0 62}) -> NO");
            e.refused("2: NO: bits below 0", RICH, lay + "{63}) -> NO", lay + "-1) -> NO", lay + "-2) -> NO");
            for (int other = 0; other < 3; other++) {
                if (other != what) {
                    e.answers("2: the others stay", NEW, "lay(" + other + ", {5}) -> 0", lay + "{6}) -> 0", "laid(" + other + ") -> {5}");
                }
            }
        }
        e.refused("2: NO: what", RICH, "lay(-1, {3}) -> NO", "lay(3, {3}) -> NO", "lay(MIN, 0) -> NO", "lay(MAX, 0) -> NO");
        e.refused("2: NO: what and bits", RICH, "lay(3, {36}) -> NO", "lay(-1, -1) -> NO");
        e.refused("2: NO: bits, where there are none yet", NEW, "lay(0, {36}) -> NO", "lay(2, -1) -> NO");
        for (int what = 0; what < 3; what++) {
            e.same("2: what is seen follows", Edges.with(RICH, "watched(0)", "lay(" + what + ", {13 24 32})", "watched(0)"),
                Edges.with(RICH, "lay(" + what + ", {13 24 32})"));
        }
    }

    private static void laid(Edges e) {
        e.answers("3: which are", RICH, "laid(0) -> {9 16 33}", "laid(1) -> {0 7 13 20 28}", "laid(2) -> {4 19 25 35}");
        e.refused("3: NO: what", RICH, "laid(-1) -> NO", "laid(3) -> NO", "laid(MIN) -> NO", "laid(MAX) -> NO");
        e.changesNothing("3: what is asked changes nothing", RICH, "laid(0) -> {9 16 33}", "laid(2) -> {4 19 25 35}");
    }

    private static void put(Edges e) {
        for (int what = 0; what < 3; what++) {
            for (int c : new int[] {0, 5, 6, 30, 35}) {
                String put = "put(" + c + ", " + what + ", ", laid = "laid(" + what + ") -> ", alone = "{" + c + "}";
                e.answers("4: what it was", NEW, put + "0) -> 0", put + "1) -> 0", laid + alone, put + "1) -> 1", laid + alone,
                    put + "0) -> 1", laid + "0", put + "0) -> 0", laid + "0");
                e.answers("4: of all others nothing", NEW, "lay(" + what + ", ALL) -> 0", put + "0) -> 1", laid + "ALL-" + alone,
                    put + "1) -> 0", laid + "ALL");
            }
            e.refused("4: -5: no such CELL", RICH, "put(-1, " + what + ", 1) -> -5", "put(36, " + what + ", 1) -> -5");
            e.refused("4: -7: is", RICH, "put(14, " + what + ", 2) -> -7", "put(14, " + what + ", -1) -> -7");
        }
        e.refused("4: -5: no such CELL, far off", RICH, "put(MIN, 0, 0) -> -5", "put(MAX, 0, 1) -> -5", "put(64, 0, 1) -> -5");
        e.refused("4: -7: what", RICH, "put(9, -1, 0) -> -7", "put(9, 3, 0) -> -7", "put(9, MIN, 1) -> -7", "put(9, MAX, 1) -> -7");
        e.refused("4: -7: is, far off", RICH, "put(9, 0, MIN) -> -7", "put(9, 0, MAX) -> -7");
        e.refused("4: -7: what and is", RICH, "put(9, 3, 2) -> -7");
        e.refused("4: of several the first: no CELL, what", RICH, "put(36, 3, 1) -> -5", "put(-1, -1, 0) -> -5");
        e.refused("4: of several the first: no CELL, is", RICH, "put(36, 0, 2) -> -5", "put(-1, 0, -1) -> -5");
        e.refused("4: of several the first: all three", RICH, "put(36, 3, 2) -> -5");
        String[] laid = {"{9 14 16 33}", "{0 7 13 14 20 28}", "{4 14 19 25 35}"};
        for (int what = 0; what < 3; what++) {
            String put = "put(14, " + what + ", 1)";
            e.same("4: is 1: it alone", Edges.with(RICH, put), Edges.with(RICH, "lay(" + what + ", " + laid[what] + ")"));
            e.same("4: is 0: it alone", Edges.with(RICH, put, "put(14, " + what + ", 0)"), RICH);
            e.same("4: what is seen follows", Edges.with(RICH, "watched(0)", put), Edges.with(RICH, put));
        }
    }

    private static void count(Edges e) {
        e.answers("5: of a new one", NEW, "count(0) -> 0", "count(1) -> 0", "count(2) -> 0", "count(3) -> 0", "count(4) -> 1",
            "count(5) -> 0", "count(6) -> 0");
        e.answers("5: of each", RICH, "count(0) -> 3", "count(1) -> 3", "count(2) -> 5", "count(3) -> 4", "count(4) -> 3",
            "count(5) -> 1", "count(6) -> 38");
        e.answers("5: the most", Edges.with(FULL, "lay(0, ALL)", "lay(1, ALL)", "lay(2, ALL)", "force(5)"), "count(0) -> 5",
            "count(1) -> 36", "count(2) -> 36", "count(3) -> 36", "count(4) -> 6", "count(5) -> 5", "count(6) -> 160");
        e.refused("5: BAD", RICH, "count(-1) -> BAD", "count(7) -> BAD", "count(MIN) -> BAD", "count(MAX) -> BAD");
        e.changesNothing("5: what is asked changes nothing", RICH, "count(4) -> 3", "count(6) -> 38");
    }

    private static void feed(Edges e) {
        e.answers("6: how many it has", NEW, "feed(1, 0, 0, 0, 0, 0) -> 1", "feed(2, 0, 0, 0, 0, 0) -> 3",
            "feed(3, 0, 0, 0, 0, 0) -> 6", "feed(4, 0, 0, 0, 0, 0) -> 10", "feed(5, 0, 0, 0, 0, 0) -> 15", "count(6) -> 15");
        e.refused("6: BAD: n", RICH, "feed(0, 1, 1, 1, 1, 1) -> BAD", "feed(6, 1, 1, 1, 1, 1) -> BAD",
            "feed(-1, 1, 1, 1, 1, 1) -> BAD", "feed(MIN, 1, 1, 1, 1, 1) -> BAD", "feed(MAX, 1, 1, 1, 1, 1) -> BAD");
        String[] ends = {"-1, 32, 32, 32, 32)", "32, -1, 32, 32, 32)", "32, 32, -1, 32, 32)", "32, 32, 32, -1, 32)", "32, 32, 32, 32, -1)"};
        for (String end : ends) {
            for (String byteTold : new String[] {"-1", "256", "MIN", "MAX"}) {
                String told = end.replace("-1", byteTold) + " -> BAD";
                e.refused("6: BAD: any of the five, all of which come", RICH, "feed(5, " + told);
                e.refused("6: BAD: any of the five, whether it comes or not", RICH, "feed(1, " + told);
            }
        }
        e.answers("6: 0 and 255 are bytes", NEW, "feed(5, 0, 255, 0, 255, 0) -> 5", "feed(1, 255, 0, 255, 0, 255) -> 6");
        e.refused("6: BAD: n and one of the five", RICH, "feed(0, 256, 0, 0, 0, 0) -> BAD", "feed(6, 0, 0, 0, 0, -1) -> BAD");
        e.same("6: the first n, one by one", Edges.with(NEW, "feed(5, 114, 101, 97, 99, 104)", "feed(4, 32, 49, 59, 115, 59)",
            "feed(3, 101, 101, 115, 0, 0)", "feed(2, 32, 49, 1, 2, 3)", "feed(1, 59, 1, 2, 3, 4)", "tape(worth 9 ;)"),
            Edges.with(NEW, "tape(reach 1;sees 1;worth 9 ;)"));
        e.same("6: behind THE TAPE's", Edges.with(NEW, "tape(reach 5 ; sees 1)", "tape(0 ; worth 12 ;)"),
            Edges.with(NEW, "tape(reach 5 ; sees 10 ; worth 12 ;)"));
    }

    private static void feedTillFull(Edges e) {
        List<String> of155 = Edges.with(RICH, "tape(" + " ".repeat(117) + ")");
        e.answers("6: there is room for all", of155, "count(6) -> 155", "feed(5, 32, 32, 32, 32, 32) -> 160", "count(6) -> 160");
        e.answers("6: there is room for the last one", of155, "feed(4, 1, 2, 3, 4, 5) -> 159", "feed(1, 32, 0, 0, 0, 0) -> 160");
        for (int n = 1; n < 6; n++) {
            List<String> almost = Edges.with(RICH, "tape(" + " ".repeat(123 - n) + ")");
            e.refused("6: FULL: they have not all room (none comes), one too many", almost, "feed(" + n + ", 59, 59, 59, 59, 59) -> FULL");
            e.refused("6: FULL: a full tape", FULL, "feed(" + n + ", 59, 59, 59, 59, 59) -> FULL");
        }
        e.refused("6: of several the first: n, full", FULL, "feed(0, 59, 59, 59, 59, 59) -> BAD", "feed(6, 59, 59, 59, 59, 59) -> BAD");
        for (String five : new String[] {"256, 1, 1, 1, 1", "1, -1, 1, 1, 1", "1, 1, 256, 1, 1", "1, 1, 1, -1, 1", "1, 1, 1, 1, 256"}) {
            e.refused("6: of several the first: one of the five, full", FULL, "feed(1, " + five + ") -> BAD", "feed(5, " + five + ") -> BAD");
        }
        e.answers("6: then what is there is a TEXT yet", Edges.with(NEW, "tape(reach 6;sees 1;worth 6;" + " ".repeat(137) + ")"),
            "feed(1, 59, 0, 0, 0, 0) -> FULL", "text() -> 1", "count(6) -> 0", "feed(1, 59, 0, 0, 0, 0) -> 1");
    }
}
