/** Promises 19 to 23. */
public final class ThiefTest {
    public static void main(String[] args) {
        Checks k = new Checks();
        empty(k);
        corridor(k);
        neverAndWalls(k);
        firstBeside(k);
        more(k);
        refused(k);
        k.end("ThiefTest");
    }

    private static void empty(Checks k) {
        GuardsLookLeft x = new GuardsLookLeft();
        k.due("19 across", x.soon(0, 35, 0), 10);
        k.due("19 he is there", x.soon(7, 7, 23), 0);
        k.due("20 he is there", x.path(7, 7, 23, 0), 7);
        k.due("20 k is greater", x.path(7, 7, 23, 1), -1);
        k.due("19 no way round the border", x.soon(5, 6, 0), 6);
        k.due("21 at once", x.hides(0, 0, 0), 1);
        k.due("21 beside", x.hides(0, 0, 1), Checks.bits(0, 1, 6));
        k.due("21 beside 5", x.hides(5, 0, 1), Checks.bits(5, 4, 11));
        k.due("21 beside 6", x.hides(6, 0, 1), Checks.bits(6, 0, 7, 12));
        k.due("21 beside 35", x.hides(35, 23, 1), Checks.bits(35, 34, 29));
        k.due("21 beside 14", x.hides(14, 0, 1), Checks.bits(14, 8, 13, 15, 20));
        k.due("21 everywhere", x.hides(14, 0, 24), Checks.ALL);
        k.due("22 always", x.when(0, 35), Checks.ALL_SECONDS);
        int[] way = {0, 1, 2, 3, 4, 5, 11, 17, 23, 29, 35};
        for (int i = 0; i <= 10; i++) {
            k.due("20 told from its end " + i, x.path(0, 35, 0, i), way[i]);
        }
        k.due("20 behind it", x.path(0, 35, 0, 11), -1);
    }

    /** The cells 0 .. 5 and, out of the wall at 8, a guard who looks at 2 from his second MORE on. */
    private static GuardsLookLeft corridor(int kind, int more) {
        GuardsLookLeft x = new GuardsLookLeft();
        x.lay(0, Checks.ALL & ~63);
        x.guard(kind, 8, 30, more);
        return x;
    }

    private static void corridor(Checks k) {
        GuardsLookLeft x = corridor(5, 5);
        k.due("19 just by", x.soon(0, 5, 2), 5);
        k.due("19 a wait of a round", x.soon(0, 5, 3), 24);
        k.due("19 a shorter one", x.soon(0, 5, 4), 23);
        k.due("19 beside, just by", x.soon(1, 5, 3), 4);
        k.due("19 out of 2 in time", x.soon(2, 5, 4), 3);
        k.due("19 seen in 2 at first", x.soon(2, 5, 5), -1);
        k.due("19 seen there at first, there", x.soon(2, 2, 5), -1);
        k.due("22 out of 2", x.when(2, 5), 31);
        k.due("22 by 2", x.when(0, 5), Checks.ALL_SECONDS);
        for (int i = 0; i <= 24; i++) {
            k.due("20 waits, told from its end " + i, x.path(0, 5, 3, i), i == 0 ? 0 : i < 21 ? 1 : i - 19);
        }
        k.due("21 not there", x.hides(0, 3, 2), 3);
        k.due("21 not yet", x.hides(0, 3, 20), 3);
        k.due("21 then", x.hides(0, 3, 21), 7);
        k.due("21 all", x.hides(0, 3, 24), 63);
        k.due("21 by then 2 is seen", x.hides(0, 0, 6), 59);
        k.due("21 seen at first", x.hides(2, 5, 3), 0);
        k.due("21 seen at first, at first", x.hides(2, 5, 0), 0);
        for (int i = 0; i <= 24; i++) {
            x.hides(0, 3, 24);
            k.due("21 seen at first, whatever was asked before", x.hides(2, 5, i), 0);
        }
        GuardsLookLeft z = corridor(5, 1);
        k.due("19 only at 0, ahead of it", z.soon(1, 5, 23), 4);
        k.due("19 not by 24", z.soon(0, 5, 23), -1);
        k.due("22 neither just ahead of it nor too long", z.when(0, 5), Checks.ALL_SECONDS & ~(1 << 23 | 7));
        k.due("20 none", z.path(0, 5, 23, 0), -1);
    }

    private static void neverAndWalls(Checks k) {
        GuardsLookLeft x = corridor(1, 0);
        k.due("19 always seen", x.soon(0, 5, 0), -1);
        k.due("22 never", x.when(0, 5), 0);
        k.due("22 on this side", x.when(0, 1), Checks.ALL_SECONDS);
        k.due("21 on this side", x.hides(0, 0, 24), 3);
        k.due("19 into a wall", x.soon(0, 6, 0), -1);
        k.due("19 out of a wall", x.soon(6, 0, 0), -1);
        k.due("19 in a wall", x.soon(6, 6, 0), -1);
        k.due("21 in a wall", x.hides(6, 0, 0), 0);
        k.due("22 in a wall", x.when(6, 6), 0);
        k.due("20 in a wall", x.path(6, 6, 0, 0), -1);
    }

    /** Of several cells out of which he could come, the first by ways 0 .. 3. */
    private static void firstBeside(Checks k) {
        GuardsLookLeft x = new GuardsLookLeft();
        k.due("20 y more first", x.path(28, 7, 0, 5), 13);
        k.due("20 y more ahead of x less", x.path(24, 7, 0, 3), 13);
        k.due("20 then x more", x.path(5, 0, 0, 4), 1);
        k.due("20 x more ahead of y less", x.path(5, 24, 0, 8), 25);
        k.due("20 y less ahead of x less", x.path(0, 14, 0, 3), 8);
        k.due("20 x less at last", x.path(0, 2, 0, 1), 1);
        GuardsLookLeft y = new GuardsLookLeft();
        y.lay(0, Checks.ALL & ~7);
        y.guard(5, 8, 30, 5);
        k.due("20 the same cell first", y.path(0, 2, 3, 20), 1);
    }

    private static void more(Checks k) {
        GuardsLookLeft x = new GuardsLookLeft();
        x.lay(0, Checks.ALL & ~63 & ~Checks.bits(8));
        x.guard(1, 14, 30, 0);
        x.put(14, 0, 1);
        k.due("23 now", x.when(0, 5), Checks.ALL_SECONDS);
        k.due("23 a lamp at 2", x.more(0, 5, 0), 2);
        k.due("23 a lamp: how many then", x.more(0, 5, 2), 0);
        k.due("23 no mirror helps", x.more(0, 5, 1), -1);
        k.due("23 no mirror: how many now", x.more(0, 5, 3), 24);
        k.due("23 nothing laid", x.laid(1), 0);
        k.due("23 nothing changed", x.when(0, 5), Checks.ALL_SECONDS);
        x.put(2, 1, 1);
        k.due("23 none fewer than 0", x.more(0, 5, 0), -1);
        k.due("23 none fewer: how many", x.more(0, 5, 2), 0);
        GuardsLookLeft y = Checks.withLaw("reach 3 ; sees far = 3 ; worth 1 ;");
        y.lay(0, Checks.ALL & ~63 & ~Checks.bits(6));
        y.guard(1, 12, 30, 0);
        k.due("23 now, by mirrors", y.when(0, 5), Checks.ALL_SECONDS);
        k.due("23 a mirror at 0", y.more(0, 5, 1), 0);
        k.due("23 a mirror: how many then", y.more(0, 5, 3), 0);
        k.due("23 no lamp helps", y.more(0, 5, 0), -1);
        k.due("23 no mirror laid", y.laid(2), 0);
        GuardsLookLeft z = Checks.withLaw("reach 1 + lit ; sees 1 ; worth 1 ;");
        z.lay(0, Checks.ALL & ~63 & ~Checks.bits(8));
        z.guard(1, 14, 30, 0);
        k.due("23 a lamp where he stands, in a wall, is none", z.more(0, 5, 0), -1);
        z.put(14, 0, 0);
        k.due("23 where he stands, in no wall, is one", z.more(0, 5, 0), 14);
        GuardsLookLeft w = Checks.withLaw("reach 3 ; sees lit ; worth 1 ;");
        w.lay(0, Checks.ALL & ~63);
        w.put(0, 2, 1);
        w.guard(1, 6, 30, 0);
        k.due("23 of like ones the first", w.more(0, 5, 0), 0);
        k.due("23 the first by which there are fewer", w.more(1, 5, 0), 1);
        k.due("23 the only one", w.more(2, 5, 0), 2);
        k.due("23 none", w.more(3, 5, 0), -1);
        GuardsLookLeft v = Checks.withLaw("reach 3 ; sees lit and (second < 3 or far = 3) ; worth 1 ;");
        v.lay(0, Checks.ALL & ~63);
        v.put(0, 2, 1);
        v.guard(1, 6, 30, 0);
        k.due("23 not the first, but of the fewest", v.more(0, 5, 0), 2);
        k.due("23 the fewest", v.more(0, 5, 2), 0);
        k.due("23 fewer, if not none", v.more(0, 0, 0), 0);
        k.due("23 how many then", v.more(0, 0, 2), 21);
        GuardsLookLeft first = Checks.withLaw("reach 1 ; sees lit and second = 0 ; worth 1 ;");
        first.lay(0, Checks.ALL & ~1);
        first.guard(1, 6, 30, 0);
        k.due("23 at second 0 alone", first.more(0, 0, 0), 0);
        k.due("23 at second 0 alone, how many then", first.more(0, 0, 2), 23);
        GuardsLookLeft walks = Checks.withLaw("reach 1 ; sees lit ; worth 1 ;");
        walks.lay(0, Checks.ALL & ~63 & ~Checks.bits(6, 7, 8, 9, 10, 11));
        walks.guard(0, 6, 15, 0);
        walks.put(0, 0, 1);
        k.due("23 who walks back by it", walks.more(3, 3, 0), 3);
        k.due("23 who walks back by it at 7 and 17, how many then", walks.more(3, 3, 2), 22);
        k.due("23 at the end of his beat", walks.more(5, 5, 0), 5);
        GuardsLookLeft five = Checks.cellWithPacers(0, 0, 0, 0, 0);
        five.force(Checks.text(five, "reach 1 ; sees lit and number = 4 and second < 5 ; worth 1 ;"));
        k.due("23 the last of five", five.more(2, 2, 0), 2);
        k.due("23 the last of five, how many then", five.more(2, 2, 2), 19);
        GuardsLookLeft nobody = new GuardsLookLeft();
        nobody.lay(0, Checks.ALL & ~1);
        k.due("23 nobody", nobody.more(0, 0, 0), -1);
        k.due("23 nobody, how many now", nobody.more(0, 0, 2), 24);
    }

    private static void refused(Checks k) {
        GuardsLookLeft x = new GuardsLookLeft();
        k.due("19 a", x.soon(36, 0, 24), Checks.NO_SUCH);
        k.due("19 b", x.soon(0, 36, 24), Checks.NO_SUCH);
        k.due("19 second", x.soon(0, 0, 24), Checks.WRONG);
        k.due("20 a", x.path(36, 0, 24, 25), Checks.NO_SUCH);
        k.due("20 b", x.path(0, 36, 24, 25), Checks.NO_SUCH);
        k.due("20 second", x.path(0, 0, 24, 0), Checks.WRONG);
        k.due("20 k 25", x.path(0, 0, 0, 25), Checks.WRONG);
        k.due("20 k 24", x.path(0, 0, 0, 24), -1);
        k.due("21 a", x.hides(36, 0, 0), Checks.NO);
        k.due("21 second", x.hides(0, 24, 0), Checks.NO);
        k.due("21 k 25", x.hides(0, 0, 25), Checks.NO);
        k.due("22 a", x.when(36, 0), Checks.NO_SUCH);
        k.due("22 b", x.when(0, 36), Checks.NO_SUCH);
        k.due("23 a", x.more(36, 0, 9), Checks.NO_SUCH);
        k.due("23 b", x.more(0, 36, 9), Checks.NO_SUCH);
        k.due("23 what", x.more(0, 0, 4), Checks.WRONG);
        for (int v : Checks.WILD) {
            k.due("19 wild a", x.soon(v, 0, 0), Checks.NO_SUCH);
            k.due("19 wild b", x.soon(0, v, 0), Checks.NO_SUCH);
            k.due("19 wild t", x.soon(0, 0, v), Checks.WRONG);
            k.due("20 wild a", x.path(v, 0, 0, 0), Checks.NO_SUCH);
            k.due("20 wild b", x.path(0, v, 0, 0), Checks.NO_SUCH);
            k.due("20 wild t", x.path(0, 0, v, 0), Checks.WRONG);
            k.due("20 wild k", x.path(0, 0, 0, v), Checks.WRONG);
            k.due("21 wild a", x.hides(v, 0, 0), Checks.NO);
            k.due("21 wild t", x.hides(0, v, 0), Checks.NO);
            k.due("21 wild k", x.hides(0, 0, v), Checks.NO);
            k.due("22 wild a", x.when(v, 0), Checks.NO_SUCH);
            k.due("22 wild b", x.when(0, v), Checks.NO_SUCH);
            k.due("23 wild a", x.more(v, 0, 0), Checks.NO_SUCH);
            k.due("23 wild b", x.more(0, v, 0), Checks.NO_SUCH);
            k.due("23 wild what", x.more(0, 0, v), Checks.WRONG);
        }
    }
}
