/** Promises 10 to 13. */
public final class GuardTest {
    public static void main(String[] args) {
        Checks k = new Checks();
        guard(k);
        set(k);
        told(k);
        walks(k);
        kinds(k);
        atRefused(k);
        k.end("GuardTest");
    }

    private static void guard(Checks k) {
        GuardsLookLeft x = new GuardsLookLeft();
        for (int v : Checks.WILD) {
            k.due("10 wild kind", x.guard(v, 0, 0, 0), Checks.BAD);
            k.due("10 wild cell", x.guard(0, v, 0, 0), Checks.BAD);
            k.due("10 wild way, length", x.guard(0, 0, v, 0), Checks.BAD);
            k.due("10 wild more", x.guard(0, 0, 0, v), Checks.BAD);
        }
        k.due("10 kind 6", x.guard(6, 0, 0, 0), Checks.BAD);
        k.due("10 cell 36", x.guard(0, 36, 0, 0), Checks.BAD);
        k.due("10 way 4", x.guard(0, 0, 40, 0), Checks.BAD);
        k.due("10 length 6", x.guard(0, 0, 36, 0), Checks.BAD);
        k.due("10 length below 0", x.guard(0, 0, -10, 0), Checks.BAD);
        k.due("10 more 10", x.guard(0, 0, 0, 10), Checks.BAD);
        k.due("10 none came", x.count(0), 0);
        x.put(35, 0, 1);
        k.due("10 at home in a wall", x.guard(5, 35, 35, 9), 0);
        for (int g = 1; g < 5; g++) {
            k.due("10 number", x.guard(g, g, g, g), g);
        }
        k.due("10 full", x.guard(0, 0, 0, 0), Checks.FULL);
        k.due("10 bad ahead of full", x.guard(6, 0, 0, 0), Checks.BAD);
        k.due("10 five", x.count(0), 5);
    }

    private static void set(Checks k) {
        GuardsLookLeft x = new GuardsLookLeft();
        x.guard(0, 0, 13, 0);
        x.guard(0, 6, 12, 0);
        k.due("11 ahead", x.set(0, 0, 23), 0);
        k.due("11 ahead again", x.set(0, 0, 2), 23);
        k.due("11 long", x.set(0, 1, 5), 3);
        k.due("11 long again", x.set(0, 1, 0), 5);
        k.due("11 the other's", x.set(1, 1, 4), 2);
        k.due("11 no such", x.set(2, 0, 0), Checks.NO_SUCH);
        k.due("11 no such, ahead of all", x.set(-1, 9, 99), Checks.NO_SUCH);
        k.due("11 what", x.set(0, 2, 0), Checks.WRONG);
        k.due("11 ahead 24", x.set(0, 0, 24), Checks.WRONG);
        k.due("11 ahead -1", x.set(0, 0, -1), Checks.WRONG);
        k.due("11 long 6", x.set(0, 1, 6), Checks.WRONG);
        k.due("11 long -1", x.set(0, 1, -1), Checks.WRONG);
        for (int v : Checks.WILD) {
            k.due("11 wild guard", x.set(v, 0, 0), Checks.NO_SUCH);
            k.due("11 wild what", x.set(0, v, 0), Checks.WRONG);
            k.due("11 wild v", x.set(0, 0, v), Checks.WRONG);
        }
        k.due("11 he has gone ahead", x.set(0, 1, 3), 0);
        k.due("11 and stands there", x.at(0, 0, 0), 2);
        k.due("11 what is seen follows", x.watched(0) & 7, 4);
    }

    private static void told(Checks k) {
        GuardsLookLeft x = new GuardsLookLeft();
        x.guard(0, 0, 0, 0);
        x.guard(4, 35, 23, 7);
        x.set(1, 0, 17);
        int[] due = {17, 3, 4, 35, 2, 7};
        for (int what = 0; what < 6; what++) {
            k.due("12 " + what, x.guardTold(1, what), due[what]);
            k.due("12 the plain one " + what, x.guardTold(0, what), 0);
        }
        k.due("12 no such", x.guardTold(2, 0), Checks.NO_SUCH);
        k.due("12 no such, first", x.guardTold(2, 9), Checks.NO_SUCH);
        k.due("12 what", x.guardTold(0, 6), Checks.WRONG);
        for (int v : Checks.WILD) {
            k.due("12 wild guard", x.guardTold(v, 0), Checks.NO_SUCH);
            k.due("12 wild what", x.guardTold(0, v), Checks.WRONG);
        }
    }

    private static void stands(Checks k, GuardsLookLeft x, int t, int cell, int way) {
        k.due("13 stands at " + t, x.at(0, t, 0), cell);
        k.due("13 turned at " + t, x.at(0, t, 1), way);
    }

    private static void walks(Checks k) {
        GuardsLookLeft x = new GuardsLookLeft();
        x.guard(0, 0, 12, 0);
        int[] cells = {0, 1, 2, 1};
        int[] ways = {1, 1, 3, 3};
        for (int t = 0; t < 24; t++) {
            stands(k, x, t, cells[t % 4], ways[t % 4]);
        }
        x.set(0, 0, 23);
        stands(k, x, 0, 1, 3);
        stands(k, x, 1, 0, 1);
        x.set(0, 0, 0);
        x.set(0, 1, 5);
        x.put(5, 0, 1);
        stands(k, x, 4, 4, 3);
        x.put(0, 0, 1);
        stands(k, x, 4, 4, 3);
        x.put(2, 0, 1);
        stands(k, x, 0, 0, 1);
        stands(k, x, 1, 1, 3);
        stands(k, x, 2, 0, 1);
        x.put(1, 0, 1);
        for (int t = 0; t < 24; t++) {
            stands(k, x, t, 0, 1);
        }
        int[] homes = {30, 5, 5, 30};
        for (int way = 0; way < 4; way++) {
            GuardsLookLeft y = new GuardsLookLeft();
            y.guard(0, homes[way], 10 * way + 5, 0);
            stands(k, y, 7, homes[way], way);
        }
        GuardsLookLeft stays = new GuardsLookLeft();
        stays.guard(0, 2, 25, 0);
        stands(k, stays, 3, 2, 2);
        GuardsLookLeft up = new GuardsLookLeft();
        up.guard(0, 35, 25, 0);
        stands(k, up, 4, 11, 2);
        stands(k, up, 7, 17, 0);
        GuardsLookLeft z = new GuardsLookLeft();
        z.guard(0, 21, 35, 0);
        stands(k, z, 3, 18, 1);
        stands(k, z, 5, 20, 1);
        stands(k, z, 6, 21, 3);
    }

    private static GuardsLookLeft one(int kind, int home, int wayLength, int more) {
        GuardsLookLeft x = new GuardsLookLeft();
        x.guard(kind, home, wayLength, more);
        return x;
    }

    private static void kinds(Checks k) {
        for (int t = 0; t < 24; t++) {
            for (int kind = 0; kind < 4; kind++) {
                k.due("13 looks " + kind, one(kind, 0, 12, 3).at(0, t, 2), 1);
            }
            stands(k, one(1, 7, 12, 3), t, 7, 1);
            GuardsLookLeft lame = one(2, 0, 12, 3);
            GuardsLookLeft guard = one(0, 0, 12, 3);
            stands(k, lame, t, guard.at(0, t / 2, 0), guard.at(0, t / 2, 1));
            for (int more = 0; more < 10; more++) {
                stands(k, one(3, 7, 12, more), t, 7, (1 + 3 * (t / (more + 1))) % 4);
                GuardsLookLeft asleep = one(4, 0, 12, more);
                stands(k, asleep, t, guard.at(0, t / 2, 0), guard.at(0, t / 2, 1));
                k.due("13 asleep", asleep.at(0, t, 2), t % (more + 2) == 0 ? 0 : 1);
                k.due("13 pacing looks", one(5, 0, 12, more).at(0, t, 2), t >= more ? 1 : 0);
            }
            stands(k, one(5, 0, 12, 0), t, t % 2 == 0 ? 0 : 2, t % 2 == 0 ? 1 : 3);
            stands(k, one(5, 0, 13, 0), t, new int[] {0, 2, 2}[t % 3], new int[] {1, 1, 3}[t % 3]);
        }
        GuardsLookLeft x = one(3, 7, 0, 0);
        k.due("13 turns left", x.at(0, 1, 1), 3);
        x.set(0, 0, 5);
        k.due("13 by his own second", x.at(0, 1, 1), 2);
        GuardsLookLeft y = one(5, 7, 0, 9);
        y.set(0, 0, 20);
        k.due("13 looks by his own second", y.at(0, 0, 2), 1);
        k.due("13 round and round", y.at(0, 4, 2), 0);
        GuardsLookLeft z = one(4, 7, 0, 0);
        z.set(0, 0, 1);
        k.due("13 asleep by his own second", z.at(0, 1, 2), 0);
        k.due("13 awake by it", z.at(0, 0, 2), 1);
    }

    private static void atRefused(Checks k) {
        GuardsLookLeft x = one(0, 0, 12, 0);
        k.due("13 no such", x.at(1, 0, 0), Checks.NO_SUCH);
        k.due("13 no such, first", x.at(1, 24, 3), Checks.NO_SUCH);
        k.due("13 second", x.at(0, 24, 0), Checks.WRONG);
        k.due("13 what", x.at(0, 0, 3), Checks.WRONG);
        for (int v : Checks.WILD) {
            k.due("13 wild guard", x.at(v, 0, 0), Checks.NO_SUCH);
            k.due("13 wild second", x.at(0, v, 0), Checks.WRONG);
            k.due("13 wild what", x.at(0, 0, v), Checks.WRONG);
        }
    }
}
