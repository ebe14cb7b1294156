/** Promises 24 to 27. */
public final class ShiftTest {
    public static void main(String[] args) {
        Checks k = new Checks();
        shift(k);
        holds(k);
        bribes(k);
        fewest(k);
        k.end("ShiftTest");
    }

    private static void shift(Checks k) {
        GuardsLookLeft x = Checks.cellWithPacers(9, 9);
        k.due("24 just behind the other's", x.shift(1, 0), 9);
        k.due("24 then no gap", x.shift(1, 1), 0);
        k.due("24 the other likewise", x.shift(0, 0), 9);
        k.due("24 nothing changed", x.guardTold(1, 0), 0);
        k.due("24 still nine", x.worst(0), 9);
        x.set(1, 0, 12);
        k.due("24 the first of like ones, whatever it is now", x.shift(1, 0), 9);
        k.due("24 ahead is kept", x.guardTold(1, 0), 12);
        k.due("24 the other needn't go", x.shift(0, 0), 0);
        x.set(0, 0, 9);
        k.due("24 nor the one now", x.shift(1, 0) + 100 * x.shift(1, 1), 0);
        GuardsLookLeft one = Checks.cellWithPacers(7);
        k.due("24 alone", one.shift(0, 0), 0);
        k.due("24 alone, that one", one.shift(0, 1), 7);
        GuardsLookLeft y = new GuardsLookLeft();
        y.lay(0, Checks.ALL);
        y.guard(0, 0, 15, 0);
        k.due("24 no cells", y.shift(0, 0), 0);
        k.due("24 no cells, that one", y.shift(0, 1), 0);
        GuardsLookLeft law = Checks.cellWithPacers(9);
        law.force(Checks.text(law, "reach 1 ; sees second < 12 ; worth 1 ;"));
        k.due("24 the law tells the second, not his own", law.shift(0, 1), 12);
        k.due("24 the first to be awake then", law.shift(0, 0), 9);
        GuardsLookLeft last = Checks.cellWithPacers(9);
        last.force(Checks.text(last, "reach 1 ; sees second = 0 or second = 10 or second = 17 ; worth 1 ;"));
        k.due("24 the last", last.shift(0, 0), 23);
        k.due("24 the last, that one", last.shift(0, 1), 9);
        GuardsLookLeft never = new GuardsLookLeft();
        never.guard(0, 0, 15, 0);
        k.due("24 of 24 the first", never.shift(0, 0), 0);
        k.due("24 of 24, that one", never.shift(0, 1), 24);
        k.due("24 no such", x.shift(2, 9), Checks.NO_SUCH);
        k.due("24 what", x.shift(0, 2), Checks.WRONG);
        for (int v : Checks.WILD) {
            k.due("24 wild guard", x.shift(v, 0), Checks.NO_SUCH);
            k.due("24 wild what", x.shift(0, v), Checks.WRONG);
        }
    }

    private static void holds(Checks k) {
        GuardsLookLeft x = Checks.cellWithPacers(9);
        k.due("25 nine", x.holds(4, 9), 1);
        k.due("25 eight", x.holds(4, 8), 0);
        k.due("25 walls do not matter", x.holds(Checks.ALL, 9), 1);
        k.due("25 walls alone", x.holds(Checks.bits(0, 35), 0), 1);
        k.due("25 no cells", x.holds(0, 0), 1);
        x.put(35, 0, 0);
        k.due("25 one of them", x.holds(Checks.bits(2, 35), 23), 0);
        k.due("25 at last", x.holds(Checks.bits(2, 35), 24), 1);
        k.due("25 not among them", x.holds(Checks.bits(2), 9), 1);
        k.due("25 cell 36", x.holds(1L << 36, 99), Checks.NO_SUCH);
        k.due("25 below 0", x.holds(-1L, 0), Checks.NO_SUCH);
        k.due("25 k 25", x.holds(4, 25), Checks.WRONG);
        k.due("25 k -1", x.holds(4, -1), Checks.WRONG);
        for (int v : Checks.WILD) {
            k.due("25 wild k", x.holds(0, v), Checks.WRONG);
        }
    }

    private static void bribes(Checks k) {
        GuardsLookLeft x = Checks.cellWithPacers(9, 9);
        x.set(1, 0, 9);
        k.due("26 both are needed", x.bribes(4, 0), 1);
        k.due("26 one is enough", x.bribes(4, 9), 7);
        k.due("26 none is", x.bribes(4, 24), 15);
        k.due("26 nothing can be", x.bribes(Checks.ALL, 23), 7 | 0);
        x.put(35, 0, 0);
        k.due("26 nor by any", x.bribes(Checks.ALL, 23), 0);
        k.due("26 no such cells", x.bribes(1L << 36, 24), 0);
        k.due("26 below 0", x.bribes(-1L, 24), 0);
        k.due("26 k 25", x.bribes(0, 25), 0);
        for (int v : Checks.WILD) {
            k.due("26 wild k", x.bribes(0, v), 0);
        }
        GuardsLookLeft none = new GuardsLookLeft();
        k.due("26 no guards", none.bribes(0, 0), 1);
        k.due("26 no guards, no way", none.bribes(1, 23), 0);
        GuardsLookLeft five = Checks.cellWithPacers(0, 0, 0, 0, 0);
        k.due("26 all sets of five", five.bribes(4, 24), -1);
        k.due("26 all sets but of all", five.bribes(4, 0), Integer.MAX_VALUE);
        GuardsLookLeft stands = new GuardsLookLeft();
        stands.guard(1, 2, 0, 0);
        k.due("26 his standing there counts not", stands.bribes(4, 0), 1);
    }

    private static void fewest(Checks k) {
        GuardsLookLeft x = Checks.cellWithPacers(9, 9);
        x.set(1, 0, 9);
        k.due("27 both", x.fewest(4, 0, 0), 3);
        k.due("27 two", x.fewest(4, 0, 1), 2);
        k.due("27 the least as bits", x.fewest(4, 9, 0), 1);
        k.due("27 one", x.fewest(4, 9, 1), 1);
        k.due("27 none needed", x.fewest(4, 24, 0), 0);
        k.due("27 0", x.fewest(4, 24, 1), 0);
        x.put(35, 0, 0);
        k.due("27 by none: which", x.fewest(Checks.bits(35), 23, 0), -1);
        k.due("27 by none: how many", x.fewest(Checks.bits(35), 23, 1), -1);
        GuardsLookLeft y = Checks.cellWithPacers(9, 9, 3);
        y.set(1, 0, 9);
        k.due("27 a later one alone", y.fewest(4, 3, 0), 4);
        k.due("27 a later one alone: one", y.fewest(4, 3, 1), 1);
        k.due("27 of three sets of two the least", y.fewest(4, 0, 0), 3);
        GuardsLookLeft five = Checks.withLaw("reach 0 ; sees 0 ; worth 1 ;");
        for (int g = 0; g < 5; g++) {
            five.guard(1, 7 * g, 0, 0);
        }
        k.due("27 all five", five.fewest(Checks.bits(0, 7, 14, 21, 28), 0, 0), 31);
        k.due("27 five", five.fewest(Checks.bits(0, 7, 14, 21, 28), 23, 1), 5);
        k.due("27 two of five", five.fewest(Checks.bits(7, 28), 23, 0), 18);
        k.due("27 no such cells", x.fewest(-1L, 99, 9), Checks.NO_SUCH);
        k.due("27 cell 36", x.fewest(1L << 36, 0, 0), Checks.NO_SUCH);
        k.due("27 k", x.fewest(4, 25, 0), Checks.WRONG);
        k.due("27 what", x.fewest(4, 0, 2), Checks.WRONG);
        for (int v : Checks.WILD) {
            k.due("27 wild k", x.fewest(0, v, 0), Checks.WRONG);
            k.due("27 wild what", x.fewest(0, 0, v), Checks.WRONG);
        }
    }
}
