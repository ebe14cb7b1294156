import java.util.ArrayList;
import java.util.List;

/** The boundaries of promises 10 to 13, and of the terms that they use (KINDS, HIS BEAT). */
public final class GuardEdgesTest {
    private static final List<String> NEW = Edges.NEW, RICH = Edges.RICH, FULL = Edges.FULL;

    public static void main(String[] args) {
        Edges e = new Edges("GuardEdgesTest");
        guard(e);
        guardRefused(e);
        guardFull(e);
        set(e);
        setRefused(e);
        guardTold(e);
        atRefused(e);
        beat(e);
        beatEnds(e);
        lefts(e);
        kinds(e);
        turning(e);
        looking(e);
        ownSecond(e);
        e.end();
    }

    private static void guard(Edges e) {
        e.answers("10: his number, 5 at most", NEW, "guard(0, 0, 0, 0) -> 0", "guard(1, 1, 1, 1) -> 1", "guard(2, 2, 2, 2) -> 2",
            "guard(3, 3, 3, 3) -> 3", "guard(4, 4, 4, 4) -> 4", "count(0) -> 5", "guard(5, 5, 5, 5) -> FULL", "count(0) -> 5");
        for (int kind = 0; kind < 6; kind++) {
            e.answers("10: KIND", NEW, "guard(" + kind + ", 7, 23, 6) -> 0", "guardTold(0, 2) -> " + kind);
        }
        e.answers("10: HOME the first, the last CELL", NEW, "guard(0, 0, 0, 0) -> 0", "guardTold(0, 3) -> 0", "guard(0, 35, 0, 0) -> 1", "guardTold(1, 3) -> 35");
        for (int way = 0; way < 4; way++) {
            for (int length : new int[] {0, 5}) {
                e.answers("10: wayLength: 10 times WAY, and LONG", NEW, "guard(0, 7, " + (10 * way + length) + ", 0) -> 0",
                    "guardTold(0, 4) -> " + way, "guardTold(0, 1) -> " + length);
            }
        }
        e.answers("10: MORE 0 .. 9", NEW, "guard(0, 0, 0, 0) -> 0", "guardTold(0, 5) -> 0", "guard(0, 0, 0, 9) -> 1", "guardTold(1, 5) -> 9");
        e.answers("10: AHEAD: 0 at first", NEW, "guard(5, 35, 35, 9) -> 0", "guardTold(0, 0) -> 0");
        e.answers("10: HOME may be a WALL", Edges.WALLED, "guard(0, 20, 12, 0) -> 0", "at(0, 9, 0) -> 20", "watched(9) -> {20}");
        e.answers("10: HOME may be another's", RICH, "guard(0, 12, 13, 2) -> 3", "guardTold(3, 0) -> 0");
        e.same("10: what is seen follows", Edges.with(RICH, "watched(0)", "guard(3, 14, 12, 1)"), Edges.with(RICH, "guard(3, 14, 12, 1)"));
    }

    private static void guardRefused(Edges e) {
        for (List<String> story : List.of(NEW, RICH)) {
            e.refused("10: BAD: KIND", story, "guard(-1, 14, 12, 3) -> BAD", "guard(6, 14, 12, 3) -> BAD", "guard(MIN, 14, 12, 3) -> BAD", "guard(MAX, 14, 12, 3) -> BAD");
            e.refused("10: BAD: HOME", story, "guard(0, -1, 12, 3) -> BAD", "guard(0, 36, 12, 3) -> BAD", "guard(0, MIN, 12, 3) -> BAD", "guard(0, MAX, 12, 3) -> BAD");
            e.refused("10: BAD: WAY", story, "guard(0, 14, 40, 3) -> BAD", "guard(0, 14, 45, 3) -> BAD", "guard(0, 14, -10, 3) -> BAD", "guard(0, 14, 100, 3) -> BAD",
                "guard(0, 14, MIN, 3) -> BAD", "guard(0, 14, MAX, 3) -> BAD");
            e.refused("10: BAD: LONG", story, "guard(0, 14, -1, 3) -> BAD", "guard(0, 14, 6, 3) -> BAD", "guard(0, 14, 9, 3) -> BAD", "guard(0, 14, 16, 3) -> BAD",
                "guard(0, 14, 26, 3) -> BAD", "guard(0, 14, 36, 3) -> BAD", "guard(0, 14, 39, 3) -> BAD", "guard(0, 14, -5, 3) -> BAD");
            e.refused("10: BAD: MORE", story, "guard(0, 14, 12, -1) -> BAD", "guard(0, 14, 12, 10) -> BAD", "guard(0, 14, 12, MIN) -> BAD", "guard(0, 14, 12, MAX) -> BAD");
            e.refused("10: BAD: all of them", story, "guard(6, 36, 40, 10) -> BAD", "guard(-1, -1, -1, -1) -> BAD");
        }
        e.answers("10: by a refusal no number is used", NEW, "guard(0, 0, 0, 0) -> 0", "guard(6, 0, 0, 0) -> BAD", "guard(0, 0, 6, 0) -> BAD", "guard(0, 1, 0, 0) -> 1");
    }

    private static void guardFull(Edges e) {
        e.refused("10: FULL", FULL, "guard(0, 14, 12, 3) -> FULL", "guard(5, 35, 35, 9) -> FULL", "guard(0, 0, 0, 0) -> FULL");
        e.refused("10: of several the first: KIND, full", FULL, "guard(6, 14, 12, 3) -> BAD", "guard(-1, 14, 12, 3) -> BAD");
        e.refused("10: of several the first: HOME, full", FULL, "guard(0, 36, 12, 3) -> BAD", "guard(0, -1, 12, 3) -> BAD");
        e.refused("10: of several the first: WAY, full", FULL, "guard(0, 14, 40, 3) -> BAD", "guard(0, 14, -1, 3) -> BAD");
        e.refused("10: of several the first: LONG, full", FULL, "guard(0, 14, 16, 3) -> BAD", "guard(0, 14, 36, 3) -> BAD");
        e.refused("10: of several the first: MORE, full", FULL, "guard(0, 14, 12, 10) -> BAD", "guard(0, 14, 12, -1) -> BAD");
    }

    private static void set(Edges e) {
        e.answers("11: AHEAD: what was", RICH, "set(0, 0, 23) -> 5", "set(0, 0, 0) -> 23", "set(0, 0, 0) -> 0", "guardTold(0, 0) -> 0", "guardTold(1, 0) -> 0", "guardTold(2, 0) -> 23");
        e.answers("11: LONG: what was", RICH, "set(1, 1, 5) -> 3", "set(1, 1, 0) -> 5", "set(1, 1, 0) -> 0", "guardTold(1, 1) -> 0", "guardTold(0, 1) -> 3", "guardTold(2, 1) -> 4");
        e.answers("11: the last of five", FULL, "set(4, 0, 23) -> 17", "set(4, 1, 0) -> 5", "guardTold(4, 0) -> 23", "guardTold(4, 1) -> 0");
        e.changesNothing("11: what it is already", RICH, "set(0, 0, 5) -> 5", "set(2, 0, 23) -> 23", "set(1, 1, 3) -> 3", "set(2, 1, 4) -> 4");
        e.same("11: AHEAD, no more", Edges.with(RICH, "set(0, 0, 9)", "set(0, 0, 5)"), RICH);
        e.same("11: LONG, no more", Edges.with(RICH, "set(0, 1, 0)", "set(0, 1, 3)"), RICH);
        e.same("11: what is seen follows AHEAD", Edges.with(RICH, "watched(0)", "set(0, 0, 9)"), Edges.with(RICH, "set(0, 0, 9)"));
        e.same("11: what is seen follows LONG", Edges.with(RICH, "watched(0)", "set(0, 1, 1)"), Edges.with(RICH, "set(0, 1, 1)"));
        e.unlike("11: AHEAD matters", Edges.with(RICH, "set(0, 0, 6)"), RICH);
        e.unlike("11: LONG matters", Edges.with(RICH, "set(0, 1, 1)"), RICH);
    }

    private static void setRefused(Edges e) {
        e.refused("11: -5: no such GUARD", RICH, "set(-1, 0, 7) -> -5", "set(3, 0, 7) -> -5", "set(4, 1, 2) -> -5", "set(5, 1, 2) -> -5", "set(MIN, 0, 7) -> -5", "set(MAX, 1, 2) -> -5");
        e.refused("11: -5: no such GUARD, of none", NEW, "set(0, 0, 7) -> -5", "set(0, 1, 2) -> -5");
        e.refused("11: -5: no such GUARD, of five", FULL, "set(5, 0, 7) -> -5", "set(-1, 1, 2) -> -5");
        e.refused("11: -7: what", RICH, "set(0, -1, 2) -> -7", "set(0, 2, 2) -> -7", "set(0, MIN, 2) -> -7", "set(0, MAX, 2) -> -7");
        e.refused("11: -7: AHEAD", RICH, "set(0, 0, -1) -> -7", "set(0, 0, 24) -> -7", "set(0, 0, MIN) -> -7", "set(0, 0, MAX) -> -7");
        e.refused("11: -7: LONG", RICH, "set(0, 1, -1) -> -7", "set(0, 1, 6) -> -7", "set(0, 1, 23) -> -7", "set(0, 1, MIN) -> -7", "set(0, 1, MAX) -> -7");
        e.refused("11: -7: what and v", RICH, "set(0, 2, 24) -> -7");
        e.refused("11: of several the first: no GUARD, what", RICH, "set(3, 2, 0) -> -5", "set(-1, -1, 0) -> -5");
        e.refused("11: of several the first: no GUARD, v", RICH, "set(3, 0, 24) -> -5", "set(-1, 0, -1) -> -5", "set(3, 1, 6) -> -5", "set(3, 1, -1) -> -5");
        e.refused("11: of several the first: all three", RICH, "set(3, 2, 24) -> -5");
    }

    private static void guardTold(Edges e) {
        e.answers("12: of each", RICH, "guardTold(0, 0) -> 5", "guardTold(0, 1) -> 3", "guardTold(0, 2) -> 0", "guardTold(0, 3) -> 12", "guardTold(0, 4) -> 1", "guardTold(0, 5) -> 2",
            "guardTold(2, 0) -> 23", "guardTold(2, 1) -> 4", "guardTold(2, 2) -> 5", "guardTold(2, 3) -> 30", "guardTold(2, 4) -> 1", "guardTold(2, 5) -> 6");
        e.answers("12: LONG as told, though HIS BEAT is shorter", Edges.WALLED, "guard(0, 35, 5, 0) -> 0", "guardTold(0, 1) -> 5");
        e.refused("12: -5: no such GUARD", RICH, "guardTold(-1, 0) -> -5", "guardTold(3, 0) -> -5", "guardTold(4, 5) -> -5", "guardTold(MIN, 0) -> -5", "guardTold(MAX, 0) -> -5");
        e.refused("12: -5: no such GUARD, of none, of five", NEW, "guardTold(0, 0) -> -5");
        e.refused("12: -5: no such GUARD, of five", FULL, "guardTold(5, 0) -> -5");
        e.refused("12: -7: what", RICH, "guardTold(0, -1) -> -7", "guardTold(0, 6) -> -7", "guardTold(2, MIN) -> -7", "guardTold(2, MAX) -> -7");
        e.refused("12: of several the first: no GUARD, what", RICH, "guardTold(3, 6) -> -5", "guardTold(-1, -1) -> -5");
        e.changesNothing("12: what is asked changes nothing", RICH, "guardTold(0, 3) -> 12", "guardTold(2, 0) -> 23");
    }

    private static void atRefused(Edges e) {
        for (int what = 0; what < 3; what++) {
            e.refused("13: -5: no such GUARD", RICH, "at(-1, 0, " + what + ") -> -5", "at(3, 0, " + what + ") -> -5", "at(MIN, 0, " + what + ") -> -5", "at(MAX, 0, " + what + ") -> -5");
            e.refused("13: -5: no such GUARD, of none", NEW, "at(0, 0, " + what + ") -> -5");
            e.refused("13: -5: no such GUARD, of five", FULL, "at(5, 0, " + what + ") -> -5");
            e.refused("13: -7: SECOND", RICH, "at(0, -1, " + what + ") -> -7", "at(0, 24, " + what + ") -> -7", "at(0, MIN, " + what + ") -> -7", "at(0, MAX, " + what + ") -> -7");
        }
        e.refused("13: -7: what", RICH, "at(0, 0, -1) -> -7", "at(0, 23, 3) -> -7", "at(0, 0, MIN) -> -7", "at(0, 0, MAX) -> -7");
        e.refused("13: -7: SECOND and what", RICH, "at(0, 24, 3) -> -7");
        e.refused("13: of several the first: no GUARD, SECOND", RICH, "at(3, 24, 0) -> -5", "at(-1, -1, 0) -> -5");
        e.refused("13: of several the first: no GUARD, what", RICH, "at(3, 0, 3) -> -5", "at(-1, 0, -1) -> -5");
        e.refused("13: of several the first: all three", RICH, "at(3, 24, 3) -> -5");
        e.changesNothing("13: what is asked changes nothing", RICH, "at(0, 0, 0) -> 13", "at(1, 0, 2) -> 0", "at(2, 0, 1) -> 3");
    }

    /** Where the first guard stands, and how he is turned, round and round. */
    private static void walks(Edges e, String sentence, List<String> story, int[] cells, int[] ways) {
        List<String> rows = new ArrayList<>();
        for (int t = 0; t < 24; t++) {
            rows.add("at(0, " + t + ", 0) -> " + cells[t % cells.length]);
            rows.add("at(0, " + t + ", 1) -> " + ways[t % ways.length]);
        }
        e.answers("13: " + sentence, story, rows.toArray(new String[0]));
    }

    private static int[] row(int... v) {
        return v;
    }

    private static void beat(Edges e) {
        walks(e, "LONG 0: b is 0: he stays at HOME, turned his WAY", List.of("guard(0, 14, 20, 0)"), row(14), row(2));
        walks(e, "LONG 1", List.of("guard(0, 14, 11, 0)"), row(14, 15), row(1, 3));
        walks(e, "LONG 2, his WAY below b, else the other way round", List.of("guard(0, 14, 2, 0)"), row(14, 20, 26, 20), row(0, 0, 2, 2));
        walks(e, "LONG 3", List.of("guard(0, 5, 33, 0)"), row(5, 4, 3, 2, 3, 4), row(3, 3, 3, 1, 1, 1));
        walks(e, "LONG 4", List.of("guard(0, 30, 24, 0)"), row(30, 24, 18, 12, 6, 12, 18, 24), row(2, 2, 2, 2, 0, 0, 0, 0));
        int[] there = {0, 1, 2, 3, 4, 5, 4, 3, 2, 1, 0, 1, 2, 3, 4, 5, 4, 3, 2, 1, 0, 1, 2, 3};
        int[] turned = {1, 1, 1, 1, 1, 3, 3, 3, 3, 3, 1, 1, 1, 1, 1, 3, 3, 3, 3, 3, 1, 1, 1, 1};
        walks(e, "LONG 5", List.of("guard(0, 0, 15, 0)"), there, turned);
        int[] homes = {0, 0, 30, 5}, adds = {6, 1, -6, -1};
        for (int way = 0; way < 4; way++) {
            walks(e, "WAYS", List.of("guard(0, " + homes[way] + ", " + (10 * way + 1) + ", 0)"), row(homes[way], homes[way] + adds[way]), row(way, (way + 2) % 4));
        }
        walks(e, "LONG becomes 0", List.of("guard(0, 0, 15, 0)", "set(0, 1, 0)"), row(0), row(1));
        walks(e, "LONG becomes more", List.of("guard(0, 14, 10, 0)", "set(0, 1, 1)"), row(14, 15), row(1, 3));
    }

    private static void beatEnds(Edges e) {
        int[][] borders = {{30, 0}, {35, 0}, {5, 1}, {35, 1}, {11, 1}, {0, 2}, {5, 2}, {0, 3}, {30, 3}, {6, 3}};
        for (int[] b : borders) {
            walks(e, "the next one would be outside: b is 0", List.of("guard(0, " + b[0] + ", " + (10 * b[1] + 5) + ", 0)"), row(b[0]), row(b[1]));
        }
        walks(e, "fewer, if the next one would be outside, y more", List.of("guard(0, 22, 5, 0)"), row(22, 28, 34, 28), row(0, 0, 2, 2));
        walks(e, "fewer, if the next one would be outside, x more", List.of("guard(0, 10, 15, 0)"), row(10, 11), row(1, 3));
        walks(e, "fewer, if the next one would be outside, y less", List.of("guard(0, 13, 25, 0)"), row(13, 7, 1, 7), row(2, 2, 0, 0));
        walks(e, "fewer, if the next one would be outside, x less", List.of("guard(0, 19, 35, 0)"), row(19, 18), row(3, 1));
        walks(e, "fewer, if the next one would be a WALL", List.of("lay(0, {3})", "guard(0, 0, 15, 0)"), row(0, 1, 2, 1), row(1, 1, 3, 3));
        walks(e, "a WALL just behind HIS BEAT does not matter", List.of("lay(0, {3})", "guard(0, 0, 12, 0)"), row(0, 1, 2, 1), row(1, 1, 3, 3));
        walks(e, "a WALL in its last CELL", List.of("lay(0, {2})", "guard(0, 0, 12, 0)"), row(0, 1), row(1, 3));
        walks(e, "a WALL at once: b is 0", List.of("lay(0, {1})", "guard(0, 0, 15, 0)"), row(0), row(1));
        walks(e, "a WALL at HOME does not matter", List.of("lay(0, {0})", "guard(0, 0, 12, 0)"), row(0, 1, 2, 1), row(1, 1, 3, 3));
        walks(e, "a WALL behind him does not matter", List.of("lay(0, {13})", "guard(0, 14, 11, 0)"), row(14, 15), row(1, 3));
        walks(e, "a WALL that comes later", List.of("guard(0, 0, 15, 0)", "at(0, 5, 0)", "put(2, 0, 1)"), row(0, 1), row(1, 3));
        walks(e, "a WALL that goes", List.of("lay(0, {2})", "guard(0, 0, 12, 0)", "at(0, 5, 0)", "put(2, 0, 0)"), row(0, 1, 2, 1), row(1, 1, 3, 3));
        walks(e, "LAMPS and MIRRORS do not matter", List.of("lay(1, ALL)", "lay(2, ALL)", "guard(0, 0, 12, 0)"), row(0, 1, 2, 1), row(1, 1, 3, 3));
    }

    /** LEFT of a WAY, told by what a fixed guard sees beside him. */
    private static void lefts(Edges e) {
        String[] beside = {"{13}", "{20}", "{15}", "{8}"};
        for (int way = 0; way < 4; way++) {
            e.answers("LEFT of WAY w: what is left of (w and 3) by 4", List.of("guard(1, 14, " + 10 * way + ", 0)"), "sees(0, 0) -> " + beside[way]);
        }
    }

    private static void kinds(Edges e) {
        walks(e, "FIXED: 0 STEPS", List.of("guard(1, 0, 15, 3)"), row(0), row(1));
        walks(e, "TURNING (a FIXED): 0 STEPS", List.of("guard(3, 0, 15, 9)", "set(0, 0, 1)", "set(0, 0, 0)"), row(0),
            row(1, 1, 1, 1, 1, 1, 1, 1, 1, 1, 0, 0, 0, 0, 0, 0, 0, 0, 0, 0, 3, 3, 3, 3));
        for (int kind : new int[] {2, 4}) {
            walks(e, "LAME, ASLEEP (a LAME): half (cut)", List.of("guard(" + kind + ", 0, 12, 0)"), row(0, 0, 1, 1, 2, 2, 1, 1), row(1, 1, 1, 1, 3, 3, 3, 3));
            walks(e, "LAME, ASLEEP: b is 1", List.of("guard(" + kind + ", 0, 11, 0)"), row(0, 0, 1, 1), row(1, 1, 3, 3));
            walks(e, "LAME, ASLEEP: 11 at most", List.of("guard(" + kind + ", 0, 15, 0)"), row(0, 0, 1, 1, 2, 2, 3, 3, 4, 4, 5, 5, 4, 4, 3, 3, 2, 2, 1, 1, 0, 0, 1, 1),
                row(1, 1, 1, 1, 1, 1, 1, 1, 1, 1, 3, 3, 3, 3, 3, 3, 3, 3, 3, 3, 1, 1, 1, 1));
        }
        walks(e, "PACING: twice as many STEPS: b is 1", List.of("guard(5, 0, 11, 0)"), row(0), row(1));
        walks(e, "PACING: twice as many STEPS: b is 2", List.of("guard(5, 0, 12, 0)"), row(0, 2), row(1, 3));
        walks(e, "PACING: twice as many STEPS: b is 3", List.of("guard(5, 0, 13, 0)"), row(0, 2, 2), row(1, 1, 3));
        walks(e, "PACING: twice as many STEPS: b is 5", List.of("guard(5, 0, 15, 0)"), row(0, 2, 4, 4, 2, 0, 2, 4, 4, 2, 0, 2, 4, 4, 2, 0, 2, 4, 4, 2, 0, 2, 4, 4),
            row(1, 1, 1, 3, 3, 1, 1, 1, 3, 3, 1, 1, 1, 3, 3, 1, 1, 1, 3, 3, 1, 1, 1, 3));
        for (int kind = 0; kind < 6; kind++) {
            walks(e, "of every KIND: b is 0", List.of("guard(" + kind + ", 35, 5, 9)"), row(35), kind == 3 ? row(0, 0, 0, 0, 0, 0, 0, 0, 0, 0, 3, 3, 3, 3, 3, 3, 3, 3, 3, 3, 2, 2, 2, 2) : row(0));
        }
    }

    private static void turning(Edges e) {
        walks(e, "TURNING: MORE 0: 3 WAYS further each, modulo 4", List.of("guard(3, 14, 10, 0)"), row(14), row(1, 0, 3, 2));
        walks(e, "TURNING: MORE 0, from WAY 0", List.of("guard(3, 14, 0, 0)"), row(14), row(0, 3, 2, 1));
        walks(e, "TURNING: MORE 1: cut", List.of("guard(3, 14, 30, 1)"), row(14), row(3, 3, 2, 2, 1, 1, 0, 0));
        walks(e, "TURNING: MORE 2", List.of("guard(3, 14, 20, 2)"), row(14), row(2, 2, 2, 1, 1, 1, 0, 0, 0, 3, 3, 3));
        walks(e, "TURNING: MORE 6: the round's last part is short", List.of("guard(3, 14, 10, 6)"), row(14),
            row(1, 1, 1, 1, 1, 1, 1, 0, 0, 0, 0, 0, 0, 0, 3, 3, 3, 3, 3, 3, 3, 2, 2, 2));
        walks(e, "TURNING: MORE 9", List.of("guard(3, 14, 20, 9)"), row(14), row(2, 2, 2, 2, 2, 2, 2, 2, 2, 2, 1, 1, 1, 1, 1, 1, 1, 1, 1, 1, 0, 0, 0, 0));
        walks(e, "only a TURNING one turns by himself", List.of("guard(1, 14, 10, 0)"), row(14), row(1));
    }

    private static void looks(Edges e, String sentence, List<String> story, long seconds) {
        List<String> rows = new ArrayList<>();
        for (int t = 0; t < 24; t++) rows.add("at(0, " + t + ", 2) -> " + (seconds >> t & 1));
        e.answers("13: " + sentence, story, rows.toArray(new String[0]));
    }

    private static void looking(Edges e) {
        for (int kind = 0; kind < 4; kind++) {
            looks(e, "GUARD, FIXED, LAME, TURNING: LOOKS", List.of("guard(" + kind + ", 14, 12, 9)"), Checks.ALL_SECONDS);
            looks(e, "GUARD, FIXED, LAME, TURNING: LOOKS, MORE 0", List.of("guard(" + kind + ", 14, 12, 0)"), Checks.ALL_SECONDS);
        }
        long all = Checks.ALL_SECONDS;
        looks(e, "ASLEEP: MORE 0: by 2", List.of("guard(4, 14, 12, 0)"), all & 0xaaaaaaL);
        looks(e, "ASLEEP: MORE 1: by 3", List.of("guard(4, 14, 12, 1)"), all & ~Checks.bits(0, 3, 6, 9, 12, 15, 18, 21));
        looks(e, "ASLEEP: MORE 3: by 5, the round's last part is short", List.of("guard(4, 14, 12, 3)"), all & ~Checks.bits(0, 5, 10, 15, 20));
        looks(e, "ASLEEP: MORE 9: by 11", List.of("guard(4, 14, 12, 9)"), all & ~Checks.bits(0, 11, 22));
        looks(e, "PACING: MORE 0: always", List.of("guard(5, 14, 12, 0)"), all);
        looks(e, "PACING: MORE 1", List.of("guard(5, 14, 12, 1)"), all & ~Checks.bits(0));
        looks(e, "PACING: s is MORE or more: 9", List.of("guard(5, 14, 12, 9)"), all & ~511L);
    }

    private static void ownSecond(Edges e) {
        walks(e, "his own second: behind 23 comes 0", List.of("guard(0, 0, 15, 0)", "set(0, 0, 23)"),
            row(3, 0, 1, 2, 3, 4, 5, 4, 3, 2, 1, 0, 1, 2, 3, 4, 5, 4, 3, 2, 1, 0, 1, 2), row(1, 1, 1, 1, 1, 1, 3, 3, 3, 3, 3, 1, 1, 1, 1, 1, 3, 3, 3, 3, 3, 1, 1, 1));
        walks(e, "his own second: LAME, odd", List.of("guard(2, 0, 11, 0)", "set(0, 0, 1)"), row(0, 1, 1, 0), row(1, 3, 3, 1));
        walks(e, "his own second: PACING, round and round", List.of("guard(5, 0, 15, 0)", "set(0, 0, 22)"),
            row(4, 4, 0, 2, 4, 4, 2, 0, 2, 4, 4, 2, 0, 2, 4, 4, 2, 0, 2, 4, 4, 2, 0, 2), row(1, 3, 1, 1, 1, 3, 3, 1, 1, 1, 3, 3, 1, 1, 1, 3, 3, 1, 1, 1, 3, 3, 1, 1));
        walks(e, "his own second: TURNING, round and round", List.of("guard(3, 14, 10, 6)", "set(0, 0, 21)"), row(14),
            row(2, 2, 2, 1, 1, 1, 1, 1, 1, 1, 0, 0, 0, 0, 0, 0, 0, 3, 3, 3, 3, 3, 3, 3));
        looks(e, "his own second: ASLEEP, round and round", List.of("guard(4, 14, 12, 9)", "set(0, 0, 20)"), Checks.ALL_SECONDS & ~Checks.bits(2, 4, 15));
        looks(e, "his own second: PACING LOOKS, round and round", List.of("guard(5, 14, 12, 9)", "set(0, 0, 20)"), Checks.ALL_SECONDS & ~(511L << 4));
        looks(e, "his own second: the greatest AHEAD", List.of("guard(5, 14, 12, 1)", "set(0, 0, 23)"), Checks.ALL_SECONDS & ~Checks.bits(1));
    }
}
