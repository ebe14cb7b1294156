/** Promises 1 to 5. */
public final class PalaceTest {
    public static void main(String[] args) {
        Checks k = new Checks();
        newObject(k);
        layAndLaid(k);
        put(k);
        count(k);
        k.end("PalaceTest");
    }

    private static void newObject(Checks k) {
        GuardsLookLeft x = new GuardsLookLeft();
        for (int what = 0; what < 7; what++) {
            k.due("1 count " + what, x.count(what), what == 4 ? 1 : 0);
        }
        for (int what = 0; what < 3; what++) {
            k.due("1 laid " + what, x.laid(what), 0);
        }
        k.due("1 no guard", x.guardTold(0, 0), Checks.NO_SUCH);
        k.due("1 no image", x.back(), Checks.STATE);
        for (int s = 0; s < 4; s++) {
            k.due("1 sheet missing " + s, x.cell(s, 0, 0), Checks.NOTHING);
        }
        k.due("1 the law's reach", x.asks(0, 0, 0, 0, 0), 3);
        k.due("1 the law sees what is beside", x.asks(1, 10, 0, 0, 0), 1);
        k.due("1 the law sees nothing far and dark", x.asks(1, 20, 0, 0, 0), 0);
        k.due("1 the law sees what is lit", x.asks(1, 91, 0, 0, 0), 1);
        k.due("1 the law's worth", x.asks(2, 99, 9, 23, 999), 1);
        k.due("1 NONE", GuardsLookLeft.NONE, -1);
        k.due("1 BAD", GuardsLookLeft.BAD, -2);
        k.due("1 STATE", GuardsLookLeft.STATE, -3);
        k.due("1 FULL", GuardsLookLeft.FULL, -4);
        k.due("1 NO", GuardsLookLeft.NO, -(1L << 62));
    }

    private static void layAndLaid(Checks k) {
        GuardsLookLeft x = new GuardsLookLeft();
        for (int what = 0; what < 3; what++) {
            k.due("2 lay", x.lay(what, 5L << what), 0);
            k.due("2 lay again", x.lay(what, Checks.ALL - what), 5L << what);
            k.due("2 cell 35", x.lay(what, 1L << 35), Checks.ALL - what);
            k.due("2 cell 36", x.lay(what, 1L << 36), Checks.NO);
            k.due("2 below 0", x.lay(what, -1L), Checks.NO);
            k.due("2 least", x.lay(what, Long.MIN_VALUE), Checks.NO);
            k.due("3 laid", x.laid(what), 1L << 35);
        }
        for (int what : new int[] {-1, 3}) {
            k.due("2 what", x.lay(what, 0), Checks.NO);
            k.due("3 what", x.laid(what), Checks.NO);
        }
        for (int what : Checks.WILD) {
            k.due("2 wild", x.lay(what, 0), Checks.NO);
            k.due("3 wild", x.laid(what), Checks.NO);
        }
    }

    private static void put(Checks k) {
        GuardsLookLeft x = new GuardsLookLeft();
        for (int what = 0; what < 3; what++) {
            k.due("4 put", x.put(35, what, 1), 0);
            k.due("4 put again", x.put(35, what, 1), 1);
            k.due("4 another", x.put(0, what, 1), 0);
            k.due("4 both", x.laid(what), 1L << 35 | 1);
            k.due("4 away", x.put(35, what, 0), 1);
            k.due("4 away again", x.put(35, what, 0), 0);
            k.due("4 one", x.laid(what), 1);
        }
        k.due("4 cell 36", x.put(36, 0, 1), Checks.NO_SUCH);
        k.due("4 cell -1, ahead of all", x.put(-1, 7, 7), Checks.NO_SUCH);
        k.due("4 what 3", x.put(0, 3, 1), Checks.WRONG);
        k.due("4 what -1", x.put(0, -1, 1), Checks.WRONG);
        k.due("4 is 2", x.put(0, 0, 2), Checks.WRONG);
        k.due("4 is -1", x.put(0, 0, -1), Checks.WRONG);
        for (int v : Checks.WILD) {
            k.due("4 wild cell", x.put(v, 0, 1), Checks.NO_SUCH);
            k.due("4 wild what", x.put(0, v, 1), Checks.WRONG);
            k.due("4 wild is", x.put(0, 0, v), Checks.WRONG);
        }
        k.due("4 refused, unchanged", x.laid(0), 1);
    }

    private static void count(Checks k) {
        GuardsLookLeft x = new GuardsLookLeft();
        x.guard(0, 0, 0, 0);
        x.guard(1, 0, 0, 0);
        x.lay(0, 7);
        x.lay(1, Checks.ALL);
        x.lay(2, 1L << 35);
        Checks.text(x, "reach 1 ; sees 1 ; worth 1 ;");
        x.force(1);
        x.feed(3, 1, 2, 3, 4, 5);
        int[] due = {2, 3, 36, 1, 2, 1, 3};
        for (int what = 0; what < 7; what++) {
            k.due("5 count " + what, x.count(what), due[what]);
        }
        k.due("5 what 7", x.count(7), Checks.BAD);
        for (int v : Checks.WILD) {
            k.due("5 wild", x.count(v), Checks.BAD);
        }
    }
}
