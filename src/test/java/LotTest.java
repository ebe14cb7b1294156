/** Promises 33 to 36. */
public final class LotTest {
    public static void main(String[] args) {
        Checks k = new Checks();
        drawn(k);
        mean(k);
        image(k);
        k.end("LotTest");
    }

    /** The aheads by lot, told by hand. */
    private static int byHand(int seed, int... mores) {
        GuardsLookLeft x = Checks.cellWithPacers(mores);
        java.math.BigInteger lot = java.math.BigInteger.valueOf(seed + 1L);
        for (int g = 0; g < mores.length; g++) {
            lot = lot.multiply(java.math.BigInteger.valueOf(48271)).mod(java.math.BigInteger.valueOf(2147483647));
            x.set(g, 0, lot.mod(java.math.BigInteger.valueOf(24)).intValue());
        }
        return x.worst(0);
    }

    private static void drawn(Checks k) {
        GuardsLookLeft x = Checks.cellWithPacers(9, 9, 8);
        int[] all = new int[25];
        for (int seed = 0; seed < 300; seed++) {
            int due = byHand(seed, 9, 9, 8);
            all[due]++;
            if (seed < 100) {
                k.due("33 seed " + seed, x.drawn(seed), due);
            }
        }
        k.due("33 the seeds tell apart", all[0] > 0 && all[1] > 0 && all[5] > 0 ? 1 : 0, 1);
        k.due("33 last seed", x.drawn(99999), byHand(99999, 9, 9, 8));
        k.due("33 nothing changed", x.guardTold(0, 0) + x.guardTold(1, 0) + x.guardTold(2, 0), 0);
        k.due("33 as before", x.worst(0), 8);
        k.due("33 no guards", new GuardsLookLeft().drawn(0), 24);
        GuardsLookLeft nobody = new GuardsLookLeft();
        nobody.lay(0, Checks.ALL & ~1);
        k.due("33 nobody", nobody.drawn(5), 24);
        GuardsLookLeft five = Checks.cellWithPacers(0, 0, 0, 0, 0);
        five.force(Checks.text(five, "reach 1 ; sees number = 4 ; worth 1 ;"));
        k.due("33 the last of five", five.drawn(5), 0);
        k.due("33 -1", x.drawn(-1), Checks.BAD);
        k.due("33 100000", x.drawn(100000), Checks.BAD);
        k.due("33 least", x.drawn(Integer.MIN_VALUE), Checks.BAD);
        k.due("33 most", x.drawn(Integer.MAX_VALUE), Checks.BAD);
        // the first lots of seed 0 are 48271 (7 modulo 24) and 182605794 (18): 17 .. 1 and 6 .. 14 are not seen by each
        GuardsLookLeft y = Checks.cellWithPacers(9, 9);
        k.due("33 seed 0 by hand", y.drawn(0), 0);
        y.force(Checks.text(y, "reach 1 ; sees number = 1 ; worth 1 ;"));
        k.due("33 seed 0, the second alone", y.drawn(0), 9);
        GuardsLookLeft z = Checks.cellWithPacers(9, 9);
        z.force(Checks.text(z, "reach 1 ; sees number = 0 and second = 12 ; worth 1 ;"));
        k.due("33 the first lot is the first's, who looks at 12", z.drawn(0), 23);
        z.force(Checks.text(z, "reach 1 ; sees number = 1 and second = 12 ; worth 1 ;"));
        k.due("33 the second is the second's, who doesn't", z.drawn(0), 24);
    }

    private static void mean(Checks k) {
        GuardsLookLeft x = Checks.cellWithPacers(9, 9, 8);
        for (int seeds = 1; seeds <= 12; seeds++) {
            for (int seed : new int[] {0, 1, 2, 3, 4, 5, 6, 7, 8, 9, 10, 11, 12, 17, 99998, 99999}) {
                int sum = 0;
                for (int i = 0; i < seeds; i++) {
                    sum += byHand(seed + i, 9, 9, 8);
                }
                int common = java.math.BigInteger.valueOf(sum).gcd(java.math.BigInteger.valueOf(seeds)).intValue();
                k.due("34 above " + seed + " " + seeds, x.mean(seed, seeds, 0), sum / common);
                k.due("34 below " + seed + " " + seeds, x.mean(seed, seeds, 1), seeds / common);
            }
        }
        GuardsLookLeft one = Checks.cellWithPacers(0);
        k.due("34 0 above", one.mean(5, 12, 0), 0);
        k.due("34 1 below", one.mean(5, 12, 1), 1);
        k.due("34 nothing changed", x.guardTold(0, 0) + x.guardTold(1, 0) + x.guardTold(2, 0), 0);
        k.due("34 seed", x.mean(100000, 1, 0), Checks.NO);
        k.due("34 seed -1", x.mean(-1, 1, 0), Checks.NO);
        k.due("34 seeds 0", x.mean(0, 0, 0), Checks.NO);
        k.due("34 seeds 13", x.mean(0, 13, 0), Checks.NO);
        k.due("34 part", x.mean(0, 1, 2), Checks.NO);
        for (int v : Checks.WILD) {
            k.due("34 wild seeds", x.mean(0, v, 0), Checks.NO);
            k.due("34 wild part", x.mean(0, 1, v), Checks.NO);
        }
        k.due("34 wild seed", x.mean(Integer.MIN_VALUE, 1, 0), Checks.NO);
        k.due("34 wildest seed", x.mean(Integer.MAX_VALUE, 12, 0), Checks.NO);
    }

    private static void image(Checks k) {
        GuardsLookLeft x = new GuardsLookLeft();
        k.due("36 none", x.back(), Checks.STATE);
        x.lay(0, 1);
        x.lay(1, 2);
        x.lay(2, 4);
        x.guard(0, 14, 12, 0);
        x.guard(0, 20, 3, 5);
        x.set(1, 0, 7);
        Checks.text(x, "reach 9 ; sees 1 ; worth 1 ;");
        x.force(1);
        long seen = x.watched(3);
        k.due("35 image", x.image(), 2);
        x.lay(0, Checks.ALL);
        x.lay(1, 0);
        x.put(2, 2, 0);
        x.set(0, 0, 3);
        x.set(1, 0, 8);
        x.set(0, 1, 0);
        x.set(1, 1, 5);
        x.force(0);
        Checks.feed(x, "abc");
        x.sheet(0, 0, 3);
        for (int g = 2; g < 5; g++) {
            x.guard(1, g, 0, 0);
        }
        Checks.feed(x, "q");
        k.due("36 back", x.back(), 2);
        k.due("36 guards", x.count(0), 2);
        k.due("36 walls", x.laid(0), 1);
        k.due("36 lamps", x.laid(1), 2);
        k.due("36 mirrors", x.laid(2), 4);
        k.due("36 aheads", x.guardTold(0, 0) * 100 + x.guardTold(1, 0), 7);
        k.due("36 lengths", x.guardTold(0, 1) * 100 + x.guardTold(1, 1), 203);
        k.due("36 the law", x.count(5), 1);
        k.due("36 what is seen", x.watched(3), seen);
        k.due("36 guards that came since", x.guardTold(2, 0), Checks.NO_SUCH);
        k.due("36 lie nowhere", x.taken(38, 0), Checks.NOTHING);
        k.due("36 the tape stays", x.count(6), 4);
        k.due("36 sheets stay", x.cell(0, 2, 0), 1);
        k.due("36 a new one", x.guard(3, 1, 11, 9), 2);
        k.due("36 is new", x.guardTold(2, 0), 0);
        x.set(2, 0, 9);
        x.set(0, 0, 23);
        k.due("36 once more", x.back(), 2);
        k.due("36 aheads once more", x.guardTold(0, 0), 0);
        k.due("36 a newer one", x.guard(3, 1, 11, 9), 2);
        k.due("36 is newer", x.guardTold(2, 0), 0);
        k.due("35 another image", x.image(), 3);
        x.set(2, 1, 4);
        k.due("36 the later image", x.back(), 3);
        k.due("36 the later image's length", x.guardTold(2, 1), 1);
        Checks.text(x, "");
        k.due("36 texts stay", x.count(4), 2);
        GuardsLookLeft y = new GuardsLookLeft();
        k.due("35 of nothing", y.image(), 0);
        y.guard(0, 0, 0, 0);
        k.due("36 to nothing", y.back(), 0);
        k.due("36 nobody", y.watched(0), 0);
        GuardsLookLeft z = new GuardsLookLeft();
        z.image();
        z.guard(1, 0, 10, 0);
        k.due("36 somebody", z.watched(0), Checks.bits(0, 6));
        z.back();
        k.due("36 nobody then", z.watched(0), 0);
    }
}
