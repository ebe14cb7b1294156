/** Promises 37 to 41. */
public final class HostTest {
    public static void main(String[] args) {
        Checks k = new Checks();
        sheet(k);
        cell(k);
        copy(k);
        guardsBy(k);
        taken(k);
        k.end("HostTest");
    }

    /** A row of a sort with some numbers; what they are is told by guards or seconds alone. */
    private static void fill(GuardsLookLeft x, int s, int sort, int... numbers) {
        x.sheet(s, sort, numbers.length);
        for (int i = 0; i < numbers.length; i++) {
            x.cell(s, i, numbers[i]);
        }
    }

    private static void sheet(Checks k) {
        GuardsLookLeft x = new GuardsLookLeft();
        k.due("37 sheet 4", x.sheet(4, 0, 1), Checks.BAD);
        k.due("37 sheet -1", x.sheet(-1, 0, 1), Checks.BAD);
        k.due("37 sort 3", x.sheet(0, 3, 1), Checks.BAD);
        k.due("37 sort -2", x.sheet(0, -2, 1), Checks.BAD);
        k.due("37 41", x.sheet(0, 0, 41), Checks.BAD);
        k.due("37 -1", x.sheet(0, 0, -1), Checks.BELOW);
        k.due("37 bad ahead of below", x.sheet(0, 3, -1), Checks.BAD);
        k.due("37 still missing", x.cell(0, 0, 0), Checks.NOTHING);
        for (int s = 0; s < 4; s++) {
            for (int sort = 0; sort < 3; sort++) {
                k.due("37 of 40", x.sheet(s, sort, 40), 1);
                k.due("37 has 40", x.cell(s, 39, 1), 1);
                k.due("37 not more", x.cell(s, 40, 1), Checks.OUTSIDE);
                k.due("37 of 0", x.sheet(s, sort, 0), 1);
                k.due("37 has none", x.cell(s, 0, 1), Checks.OUTSIDE);
            }
        }
        x.sheet(0, 2, 24);
        k.due("37 all 0", x.judge(0, 0), -1);
        x.cell(0, 23, 1);
        x.sheet(0, 2, 24);
        k.due("37 all 0 anew", x.judge(0, 0), -1);
        k.due("37 refused, unchanged", x.sheet(0, 2, -7) + x.sheet(0, 2, 41) + x.judge(0, 0), -17);
        k.due("37 missing, n doesn't matter", x.sheet(0, -1, 99), 1);
        k.due("37 is missing", x.cell(0, 0, 0), Checks.NOTHING);
        k.due("37 missing, n below 0", x.sheet(1, -1, -99), 1);
        k.due("37 missing again", x.sheet(1, -1, 0), 1);
        for (int v : Checks.WILD) {
            k.due("37 wild sheet", x.sheet(v, 0, 0), Checks.BAD);
            k.due("37 wild n", x.sheet(0, 0, v), v < 0 ? Checks.BELOW : Checks.BAD);
            if (v != -1) {
                k.due("37 wild sort", x.sheet(0, v, 0), Checks.BAD);
            }
        }
    }

    private static void cell(Checks k) {
        GuardsLookLeft x = new GuardsLookLeft();
        k.due("38 sheet", x.cell(4, 99, 0), Checks.BAD);
        k.due("38 missing", x.cell(0, 99, 0), Checks.NOTHING);
        x.sheet(0, 0, 5);
        k.due("38 5", x.cell(0, 5, 0), Checks.OUTSIDE);
        k.due("38 -1", x.cell(0, -1, 0), Checks.OUTSIDE);
        for (int v : Checks.WILD) {
            k.due("38 wild sheet", x.cell(v, 0, 0), Checks.BAD);
            k.due("38 wild place", x.cell(0, v, 0), Checks.OUTSIDE);
            k.due("38 any number", x.cell(0, 0, v), 1);
        }
        // what a number has become is told by the seconds: 1 (seen) or not
        GuardsLookLeft y = new GuardsLookLeft();
        y.guard(1, 0, 0, 0);
        int[][] ones = {{1, 257, -255, 65537}, {1, 65537, -65535, 1 << 20 | 1}, {1, 1, 1, 1}};
        int[][] others = {{255, 256, -1, 2}, {257, 65535, -1, -255}, {257, 65537, 1 << 31 | 1, -255}};
        for (int sort = 0; sort < 3; sort++) {
            y.sheet(0, sort, 24);
            for (int t = 0; t < 24; t++) {
                k.due("38 one", y.cell(0, t, ones[sort][t % 4]), 1);
            }
            k.due("38 lowest bits, sort " + sort, y.judge(0, 0), -1);
            for (int other : others[sort]) {
                y.cell(0, 7, other);
                k.due("38 not lowest bits, sort " + sort + ": " + other, y.judge(0, 0), 7);
            }
        }
    }

    private static void copy(Checks k) {
        GuardsLookLeft x = new GuardsLookLeft();
        k.due("39 sheet", x.copy(4, 9, 0, 9, -1), Checks.BAD);
        k.due("39 other sheet", x.copy(0, 9, 4, 9, -1), Checks.BAD);
        k.due("39 missing", x.copy(0, 9, 1, 9, -1), Checks.NOTHING);
        x.sheet(0, 0, 5);
        k.due("39 other missing", x.copy(0, 9, 1, 9, -1), Checks.NOTHING);
        k.due("39 first missing", x.copy(1, 9, 0, 9, -1), Checks.NOTHING);
        x.sheet(1, 1, 6);
        k.due("39 unlike", x.copy(0, 9, 1, 9, -1), Checks.UNLIKE);
        x.sheet(1, 0, 6);
        k.due("39 below 0", x.copy(0, 0, 1, 0, -1), Checks.OUTSIDE);
        k.due("39 from -1", x.copy(0, -1, 1, 0, 1), Checks.OUTSIDE);
        k.due("39 to -1", x.copy(0, 0, 1, -1, 1), Checks.OUTSIDE);
        k.due("39 from too far", x.copy(0, 1, 1, 0, 5), Checks.OUTSIDE);
        k.due("39 to too far", x.copy(0, 0, 1, 2, 5), Checks.OUTSIDE);
        k.due("39 none at the ends", x.copy(0, 5, 1, 6, 0), 0);
        k.due("39 none behind the end", x.copy(0, 6, 1, 6, 0), Checks.OUTSIDE);
        k.due("39 none behind the other's", x.copy(0, 5, 1, 7, 0), Checks.OUTSIDE);
        k.due("39 all", x.copy(0, 0, 1, 1, 5), 5);
        for (int v : Checks.WILD) {
            k.due("39 wild sheet", x.copy(v, 0, 0, 0, 0), Checks.BAD);
            k.due("39 wild other", x.copy(0, 0, v, 0, 0), Checks.BAD);
            k.due("39 wild i", x.copy(0, v, 1, 0, 1), Checks.OUTSIDE);
            k.due("39 wild j", x.copy(0, 0, 1, v, 1), Checks.OUTSIDE);
            k.due("39 wild n", x.copy(0, 0, 1, 0, v), Checks.OUTSIDE);
            k.due("39 wild i and n", x.copy(0, 1, 1, 1, Integer.MAX_VALUE), Checks.OUTSIDE);
        }
        GuardsLookLeft y = new GuardsLookLeft();
        fill(y, 0, 2, 1, 7, 23, 4, 0, 0, 0, 0);
        fill(y, 1, 2, 5, 6, 7, 8, 9);
        k.due("39 four", y.copy(0, 0, 1, 1, 4), 4);
        k.due("39 a guard by them", y.guardsBy(1, 2, 1, 1), 1);
        k.due("39 his kind", y.guardTold(0, 2), 1);
        k.due("39 his more", y.guardTold(0, 5), 4);
        k.due("39 its own, on itself", y.copy(0, 0, 0, 2, 6), 6);
        k.due("39 as they were", y.guardsBy(0, 2, 2, 1), 1);
        k.due("39 home", y.guardTold(1, 3) * 100 + y.guardTold(1, 4) * 10 + y.guardTold(1, 1), 723);
        k.due("39 back again", y.copy(0, 2, 0, 0, 6), 6);
        k.due("39 as they were again", y.guardsBy(0, 2, 0, 1), 1);
        k.due("39 home again", y.guardTold(2, 3) * 100 + y.guardTold(2, 4) * 10 + y.guardTold(2, 1), 723);
    }

    private static void guardsBy(Checks k) {
        GuardsLookLeft x = new GuardsLookLeft();
        k.due("40 sheet", x.guardsBy(4, 2, 0, 1), Checks.BAD);
        k.due("40 sort 3", x.guardsBy(0, 3, 0, 1), Checks.BAD);
        k.due("40 sort -1", x.guardsBy(0, -1, 0, 1), Checks.BAD);
        k.due("40 n 6", x.guardsBy(0, 2, 0, 6), Checks.BAD);
        k.due("40 n -1", x.guardsBy(0, 2, 0, -1), Checks.BAD);
        k.due("40 missing", x.guardsBy(0, 2, 0, 1), Checks.NOTHING);
        for (int sort = 0; sort < 3; sort++) {
            x.sheet(0, sort, 4);
            for (int other = 0; other < 3; other++) {
                if (other != sort) {
                    k.due("40 unlike", x.guardsBy(0, other, 99, 1), Checks.UNLIKE);
                }
            }
            k.due("40 outside", x.guardsBy(0, sort, 1, 1), Checks.OUTSIDE);
        }
        k.due("40 none came", x.count(0), 0);
        fill(x, 0, 1, 9, 4, 35, 31, 7, 6, 0, 0, 0, 2, 3, 4, 5);
        k.due("40 from a place on, but a bad one", x.guardsBy(0, 1, 1, 3), 2);
        k.due("40 the first", x.guardTold(0, 2) * 1000 + x.guardTold(0, 3) * 10 + x.guardTold(0, 4), 4353);
        k.due("40 the first's more", x.guardTold(0, 5) * 10 + x.guardTold(0, 1), 71);
        k.due("40 the second", x.guardTold(1, 2) * 100 + x.guardTold(1, 3) * 10 + x.guardTold(1, 1), 234);
        k.due("40 what stood ahead came", x.guardsBy(0, 1, 9, 2), Checks.OUTSIDE);
        k.due("40 one more", x.count(0), 3);
        k.due("40 nothing asked", x.guardsBy(0, 1, 99, 0), 0);
        k.due("40 till five", x.guardsBy(0, 1, 1, 1) + x.guardsBy(0, 1, 1, 1), 2);
        k.due("40 others are left out", x.guardsBy(0, 1, 1, 3), 0);
        k.due("40 outside, though full", x.guardsBy(0, 1, 1, 4), Checks.OUTSIDE);
        k.due("40 five", x.count(0), 5);
        GuardsLookLeft y = new GuardsLookLeft();
        fill(y, 3, 0, 256, 1, 10, 3);
        k.due("40 bytes", y.guardsBy(3, 0, 0, 1), 1);
        k.due("40 at -1", y.guardsBy(3, 0, -1, 1), Checks.OUTSIDE);
        k.due("40 at -4", y.guardsBy(3, 0, -4, 2), Checks.OUTSIDE);
        fill(y, 3, 0, 0, 1, 10, 3, 0, 1);
        k.due("40 the half of one is none", y.guardsBy(3, 0, 4, 1), Checks.OUTSIDE);
        k.due("40 none of it", y.count(0), 1);
        k.due("40 what is seen follows", y.watched(0), Checks.bits(1, 7));
        for (int v : Checks.WILD) {
            k.due("40 wild sheet", y.guardsBy(v, 0, 0, 1), Checks.BAD);
            k.due("40 wild sort", y.guardsBy(3, v, 0, 1), Checks.BAD);
            k.due("40 wild place", y.guardsBy(3, 0, v, 1), Checks.OUTSIDE);
            k.due("40 wild n", y.guardsBy(3, 0, 0, v), Checks.BAD);
        }
    }

    private static void taken(Checks k) {
        GuardsLookLeft x = new GuardsLookLeft();
        for (int kind = 0; kind < 5; kind++) {
            x.guard(kind, 0, 0, 0);
        }
        boolean[][] is = {
            {true}, {true, true}, {true, false, true}, {true, true, false, true}, {true, false, true, false, true},
        };
        for (int g = 0; g < 5; g++) {
            for (int kind = 0; kind < 7; kind++) {
                boolean one = kind < is[g].length && is[g][kind];
                k.due("41 " + g + " as " + kind, x.taken(36 + g, kind), one ? g : Checks.UNLIKE);
            }
        }
        GuardsLookLeft y = new GuardsLookLeft();
        y.guard(5, 0, 0, 0);
        for (int kind = 0; kind < 7; kind++) {
            k.due("41 pacing as " + kind, y.taken(36, kind), kind == 0 || kind == 5 ? 0 : Checks.UNLIKE);
        }
        for (int sum = 1; sum < 8; sum++) {
            for (int what = 0; what < 3; what++) {
                y.put(35, what, sum >> what & 1);
            }
            k.due("41 a cell " + sum, y.taken(35, 6), sum);
            for (int kind = 0; kind < 6; kind++) {
                k.due("41 a cell is no guard", y.taken(35, kind), Checks.UNLIKE);
            }
        }
        k.due("41 nothing there", y.taken(0, 6), Checks.NOTHING);
        k.due("41 nothing there, whatever the kind", y.taken(0, 0), Checks.NOTHING);
        k.due("41 no guard", y.taken(37, 0), Checks.NOTHING);
        k.due("41 no guard 4", y.taken(40, 6), Checks.NOTHING);
        k.due("41 41", y.taken(41, 0), Checks.OUTSIDE);
        k.due("41 -1", y.taken(-1, 0), Checks.OUTSIDE);
        k.due("41 kind 7", y.taken(41, 7), Checks.BAD);
        k.due("41 kind -1", y.taken(-1, -1), Checks.BAD);
        for (int v : Checks.WILD) {
            k.due("41 wild place", y.taken(v, 0), Checks.OUTSIDE);
            k.due("41 wild kind", y.taken(36, v), Checks.BAD);
        }
    }
}
