/** Promises 14 to 18. */
public final class SeenTest {
    private static final String ALL_NINE = "reach 9 ; sees 1 ; worth 1 ;";

    public static void main(String[] args) {
        Checks k = new Checks();
        sight(k);
        mirrors(k);
        namesOfSight(k);
        refused(k);
        watched(k);
        aloneAndUnseen(k);
        worst(k);
        worth(k);
        k.end("SeenTest");
    }

    private static void sight(Checks k) {
        int[] beside = {13, 20, 15, 8};
        for (int way = 0; way < 4; way++) {
            GuardsLookLeft x = new GuardsLookLeft();
            x.guard(1, 14, 10 * way, 0);
            k.due("14 left of " + way, x.sees(0, 0), Checks.bits(beside[way]));
        }
        GuardsLookLeft x = new GuardsLookLeft();
        x.guard(1, 12, 10, 0);
        x.lay(1, Checks.ALL);
        k.due("14 lit, till outside", x.sees(0, 5), Checks.bits(18, 24, 30));
        x.lay(1, Checks.bits(24));
        k.due("14 beside, and lit", x.sees(0, 5), Checks.bits(18, 24));
        x.lay(0, Checks.bits(12));
        k.due("14 out of a wall", x.sees(0, 5), Checks.bits(18, 24));
        x.lay(0, Checks.bits(24));
        k.due("14 till a wall", x.sees(0, 5), Checks.bits(18));
        x.lay(0, Checks.bits(18));
        k.due("14 a wall at once", x.sees(0, 5), 0);
        GuardsLookLeft y = Checks.withLaw(ALL_NINE);
        y.guard(1, 0, 10, 0);
        k.due("14 as far as it goes", y.sees(0, 0), Checks.bits(6, 12, 18, 24, 30));
        y.put(0, 2, 1);
        k.due("14 a mirror where he stands does nothing", y.sees(0, 0), Checks.bits(6, 12, 18, 24, 30));
        GuardsLookLeft z = Checks.withLaw("reach 2 ; sees 1 ; worth 1 ;");
        z.guard(1, 0, 10, 0);
        k.due("14 the reach", z.sees(0, 0), Checks.bits(6, 12));
        GuardsLookLeft[] outs = new GuardsLookLeft[4];
        long[] due = {Checks.bits(20, 26, 32), Checks.bits(15, 16, 17), Checks.bits(8, 2), Checks.bits(13, 12)};
        for (int way = 0; way < 4; way++) {
            outs[way] = Checks.withLaw(ALL_NINE);
            outs[way].guard(1, 14, 10 * ((way + 1) % 4), 0);
            k.due("14 till outside, way " + way, outs[way].sees(0, 0), due[way]);
            k.due("15 till outside, way " + way, outs[way].watched(0), due[way] | Checks.bits(14));
        }
        GuardsLookLeft none = Checks.withLaw("reach 0 ; sees 1 ; worth 1 ;");
        none.guard(1, 0, 10, 0);
        k.due("14 no reach", none.sees(0, 0), 0);
        GuardsLookLeft asleep = new GuardsLookLeft();
        asleep.guard(4, 0, 10, 0);
        k.due("14 asleep", asleep.sees(0, 2), 0);
        k.due("14 awake", asleep.sees(0, 3), Checks.bits(6));
    }

    private static void mirrors(Checks k) {
        GuardsLookLeft x = Checks.withLaw("reach 4 ; sees 1 ; worth 1 ;");
        x.guard(1, 14, 10, 0);
        x.lay(2, Checks.bits(20, 19, 13));
        k.due("14 brought back by mirrors", x.sees(0, 0), Checks.bits(20, 19, 13, 14));
        x.lay(2, Checks.bits(20));
        k.due("14 one mirror", x.sees(0, 0), Checks.bits(20, 19, 18));
        x.put(18, 0, 1);
        k.due("14 a wall behind it", x.sees(0, 0), Checks.bits(20, 19));
        GuardsLookLeft y = Checks.withLaw(ALL_NINE);
        y.guard(1, 14, 10, 0);
        y.lay(2, Checks.bits(20, 19, 13, 14));
        k.due("14 round and round", y.sees(0, 0), Checks.bits(20, 19, 13, 14));
        y.put(14, 2, 0);
        k.due("14 over where he stands", y.sees(0, 0), Checks.bits(20, 19, 13, 14, 15, 16, 17));
        GuardsLookLeft z = Checks.withLaw("reach 9 ; sees far = 2 ; worth 1 ;");
        z.guard(1, 14, 10, 0);
        z.lay(2, Checks.bits(20));
        k.due("14 a mirror that isn't seen turns, too", z.sees(0, 0), Checks.bits(19));
    }

    /** What the six names are for reach and sees. */
    private static void namesOfSight(Checks k) {
        GuardsLookLeft x = Checks.withLaw("reach far + 1 + lit * 2 ; sees 1 ; worth 1 ;");
        x.guard(1, 12, 10, 0);
        k.due("14 reach in the dark, far 0", x.sees(0, 0), Checks.bits(18));
        x.put(12, 1, 1);
        k.due("14 reach where a lamp is", x.sees(0, 0), Checks.bits(18, 24, 30));
        GuardsLookLeft y = Checks.withLaw("reach more ; sees 1 ; worth 1 ;");
        y.guard(1, 0, 10, 3);
        k.due("14 reach by more", y.sees(0, 0), Checks.bits(6, 12, 18));
        GuardsLookLeft n = Checks.withLaw("reach number ; sees 1 ; worth 1 ;");
        n.guard(1, 0, 10, 0);
        n.guard(1, 0, 10, 0);
        n.guard(1, 0, 10, 0);
        k.due("14 reach by number", n.sees(2, 0), Checks.bits(6, 12));
        GuardsLookLeft c = Checks.withLaw("reach cell - 1 ; sees 1 ; worth 1 ;");
        c.guard(0, 2, 15, 0);
        k.due("14 reach by where he stands", c.sees(0, 0), Checks.bits(8));
        k.due("14 reach by where he stands then", c.sees(0, 1), Checks.bits(9, 15));
        GuardsLookLeft s = Checks.withLaw("reach second ; sees 1 ; worth 1 ;");
        s.guard(1, 0, 10, 0);
        s.set(0, 0, 3);
        k.due("14 reach by the second, not his own", s.sees(0, 2), Checks.bits(6, 12));
        GuardsLookLeft far = Checks.withLaw("reach 9 ; sees far = 1 or far = 5 ; worth 1 ;");
        far.guard(1, 0, 10, 0);
        k.due("14 sees by far", far.sees(0, 0), Checks.bits(6, 30));
        GuardsLookLeft lit = Checks.withLaw("reach 9 ; sees lit ; worth 1 ;");
        lit.guard(1, 0, 10, 0);
        lit.lay(1, Checks.bits(0, 12, 13));
        k.due("14 sees by the lamp that is looked at", lit.sees(0, 0), Checks.bits(12));
        GuardsLookLeft cell = Checks.withLaw("reach 9 ; sees cell = 18 ; worth 1 ;");
        cell.guard(1, 0, 10, 0);
        k.due("14 sees by the cell that is looked at", cell.sees(0, 0), Checks.bits(18));
        GuardsLookLeft own = Checks.withLaw("reach 9 ; sees more * 6 + number = cell ; worth 1 ;");
        own.guard(1, 0, 10, 2);
        own.guard(1, 1, 10, 3);
        k.due("14 sees by more", own.sees(0, 0), Checks.bits(12));
        k.due("14 sees by number", own.sees(1, 0), Checks.bits(19));
        GuardsLookLeft sec = Checks.withLaw("reach 9 ; sees far = second ; worth 1 ;");
        sec.guard(1, 0, 10, 0);
        sec.set(0, 0, 20);
        k.due("14 sees by the second", sec.sees(0, 3), Checks.bits(18));
    }

    private static void refused(Checks k) {
        GuardsLookLeft x = new GuardsLookLeft();
        x.guard(0, 0, 0, 0);
        k.due("14 guard", x.sees(1, 0), Checks.NO);
        k.due("14 second", x.sees(0, 24), Checks.NO);
        k.due("15 second", x.watched(24), Checks.NO);
        k.due("16 cell", x.alone(36), Checks.NO_SUCH);
        k.due("17 cell", x.unseen(36), Checks.NO_SUCH);
        k.due("18 what", x.worst(4), Checks.BAD);
        for (int v : Checks.WILD) {
            k.due("14 wild guard", x.sees(v, 0), Checks.NO);
            k.due("14 wild second", x.sees(0, v), Checks.NO);
            k.due("15 wild", x.watched(v), Checks.NO);
            k.due("16 wild", x.alone(v), Checks.NO_SUCH);
            k.due("17 wild", x.unseen(v), Checks.NO_SUCH);
            k.due("18 wild", x.worst(v), Checks.BAD);
        }
    }

    private static void watched(Checks k) {
        GuardsLookLeft x = new GuardsLookLeft();
        k.due("15 nobody", x.watched(0), 0);
        x.guard(1, 14, 10, 0);
        k.due("15 what he sees, and where he stands", x.watched(23), Checks.bits(14, 20));
        x.guard(4, 0, 0, 0);
        k.due("15 where he stands asleep", x.watched(0), Checks.bits(14, 20, 0));
        x.put(0, 0, 1);
        k.due("15 where he stands in a wall", x.watched(0), Checks.bits(14, 20, 0));
        x.guard(1, 19, 30, 0);
        k.due("15 any of them", x.watched(0), Checks.bits(14, 20, 0, 19, 13));
        x.put(20, 0, 1);
        k.due("15 after a wall came", x.watched(0), Checks.bits(14, 0, 19, 13));
        x.lay(0, 0);
        x.lay(1, Checks.bits(26));
        k.due("15 after a lamp came", x.watched(0), Checks.bits(14, 20, 26, 0, 19, 13));
        x.put(20, 2, 1);
        k.due("15 after a mirror came", x.watched(0), Checks.bits(14, 20, 0, 19, 13));
    }

    private static void aloneAndUnseen(Checks k) {
        GuardsLookLeft x = new GuardsLookLeft();
        k.due("16 nobody", x.alone(35), Checks.ALL_SECONDS);
        k.due("17 nobody", x.unseen(35), 24);
        x.guard(4, 14, 10, 4);
        k.due("16 seen when he isn't asleep", x.alone(20), 1 | 1 << 6 | 1 << 12 | 1 << 18);
        k.due("17 one second each", x.unseen(20), 1);
        k.due("16 where he stands", x.alone(14), 0);
        k.due("17 where he stands", x.unseen(14), 0);
        x.put(14, 0, 1);
        k.due("17 where he stands in a wall", x.unseen(14), 0);
        GuardsLookLeft y = Checks.cellWithPacers(7);
        k.due("16 not yet", y.alone(2), 127);
        k.due("17 seven", y.unseen(2), 7);
        y.set(0, 0, 3);
        k.due("16 round", y.alone(2), 7 << 21 | 15);
        k.due("17 round and round", y.unseen(2), 7);
        y.guard(5, 8, 30, 9);
        y.set(1, 0, 0);
        k.due("16 of two", y.alone(2), 15);
        k.due("17 of two", y.unseen(2), 4);
        k.due("17 a wall that nobody sees", y.unseen(0), 24);
        GuardsLookLeft z = new GuardsLookLeft();
        z.guard(5, 8, 30, 1);
        k.due("16 one second", z.alone(2), 1);
        k.due("17 one second", z.unseen(2), 1);
        GuardsLookLeft once = Checks.withLaw("reach 1 ; sees second = 5 ; worth 1 ;");
        once.guard(1, 8, 30, 0);
        k.due("16 all but one", once.alone(2), Checks.ALL_SECONDS & ~(1 << 5));
        k.due("17 all but one", once.unseen(2), 23);
    }

    private static void worst(Checks k) {
        GuardsLookLeft x = new GuardsLookLeft();
        k.due("18 nobody: greatest", x.worst(0), 24);
        k.due("18 nobody: first", x.worst(1), 0);
        k.due("18 nobody: how many", x.worst(2), 36);
        k.due("18 nobody: worth", x.worst(3), 864);
        x.lay(0, Checks.ALL);
        k.due("18 no cells: greatest", x.worst(0), 0);
        k.due("18 no cells: first", x.worst(1), -1);
        k.due("18 no cells: how many", x.worst(2), 0);
        k.due("18 no cells: worth", x.worst(3), 0);
        GuardsLookLeft y = Checks.cellWithPacers(7);
        k.due("18 greatest", y.worst(0), 7);
        k.due("18 first", y.worst(1), 2);
        k.due("18 none is 24", y.worst(2), 0);
        k.due("18 worth", y.worst(3), 7);
        y.put(8, 0, 0);
        k.due("18 another that is seen", y.worst(0), 7);
        k.due("18 is not the first", y.worst(1), 2);
        y.put(20, 0, 0);
        y.put(30, 0, 0);
        k.due("18 two unseen: greatest", y.worst(0), 24);
        k.due("18 two unseen: first", y.worst(1), 20);
        k.due("18 two unseen: how many", y.worst(2), 2);
        GuardsLookLeft z = Checks.cellWithPacers(0);
        k.due("18 always seen: greatest", z.worst(0), 0);
        k.due("18 always seen: first", z.worst(1), 2);
        k.due("18 always seen: how many", z.worst(2), 0);
        k.due("18 always seen: worth", z.worst(3), 0);
    }

    private static void worth(Checks k) {
        GuardsLookLeft x = Checks.cellWithPacers(7);
        x.force(Checks.text(x, "reach 3 ; sees 1 ; worth second + cell + lit * 10 ;"));
        k.due("18 worth by second and cell", x.worst(3), 21 + 7 * 2);
        x.put(2, 1, 1);
        k.due("18 worth by the lamp", x.worst(3), 21 + 7 * 12);
        x.force(Checks.text(x, "reach 3 ; sees 1 ; worth 7 - far - more - number ;"));
        k.due("18 worth: far, more, number 0", x.worst(3), 49);
        x.force(Checks.text(x, "reach 3 ; sees 1 ; worth second * 100 - 300 ;"));
        k.due("18 worth within its bounds, each", x.worst(3), 3 * 99);
        GuardsLookLeft y = new GuardsLookLeft();
        y.force(Checks.text(y, "reach 3 ; sees 1 ; worth 100 ;"));
        k.due("18 the most", y.worst(3), 36 * 24 * 99);
    }
}
