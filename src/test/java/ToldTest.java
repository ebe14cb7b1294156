/** Promises 28 to 32. */
public final class ToldTest {
    public static void main(String[] args) {
        Checks k = new Checks();
        judge(k);
        which(k);
        laws(k);
        gone(k);
        film(k);
        k.end("ToldTest");
    }

    private static void judge(Checks k) {
        GuardsLookLeft x = Checks.cellWithPacers(7);
        k.due("28 sheet", x.judge(4, 36), Checks.BAD);
        k.due("28 sheet -1", x.judge(-1, 36), Checks.BAD);
        k.due("28 missing", x.judge(0, 36), Checks.NOTHING);
        x.sheet(0, 2, 23);
        k.due("28 23", x.judge(0, 36), Checks.BAD);
        x.sheet(0, 2, 25);
        k.due("28 25", x.judge(0, 36), Checks.BAD);
        for (int sort = 0; sort < 3; sort++) {
            x.sheet(0, sort, 24);
            k.due("28 cell", x.judge(0, 36), Checks.NO_SUCH);
            k.due("28 cell -1", x.judge(0, -1), Checks.NO_SUCH);
            k.due("28 seen at 7", x.judge(0, 2), 7);
            k.due("28 never seen", x.judge(0, 3), -1);
            for (int t = 7; t < 24; t++) {
                x.cell(0, t, 1);
            }
            k.due("28 as it is", x.judge(0, 2), -1);
            x.cell(0, 23, 0);
            k.due("28 the last", x.judge(0, 2), 23);
            x.cell(0, 9, 2);
            k.due("28 neither 1 nor 0", x.judge(0, 2), 9);
            x.cell(0, 0, -1);
            k.due("28 the first", x.judge(0, 2), 0);
        }
        for (int v : Checks.WILD) {
            k.due("28 wild sheet", x.judge(v, 0), Checks.BAD);
            k.due("28 wild cell", x.judge(0, v), Checks.NO_SUCH);
        }
    }

    private static void which(Checks k) {
        GuardsLookLeft x = Checks.cellWithPacers(7);
        k.due("29 missing", x.which(0), Checks.NO);
        k.due("29 sheet", x.which(4), Checks.NO);
        x.sheet(0, 0, 40);
        k.due("29 size", x.which(0), Checks.NO);
        x.sheet(0, 0, 24);
        k.due("29 all that nobody sees, walls too", x.which(0), Checks.ALL & ~Checks.bits(2, 8));
        x.film(0, 2);
        k.due("29 the one", x.which(0), Checks.bits(2));
        x.film(0, 8);
        k.due("29 always seen", x.which(0), Checks.bits(8));
        x.cell(0, 0, 5);
        k.due("29 none", x.which(0), 0);
        for (int v : Checks.WILD) {
            k.due("29 wild sheet", x.which(v), Checks.NO);
        }
    }

    private static void laws(Checks k) {
        GuardsLookLeft x = Checks.cellWithPacers(7);
        k.due("30 sheet", x.laws(4, 36), Checks.BAD);
        k.due("30 missing", x.laws(0, 36), Checks.NOTHING);
        x.sheet(0, 0, 2);
        k.due("30 size", x.laws(0, 36), Checks.BAD);
        x.film(0, 2);
        k.due("30 cell", x.laws(0, 36), Checks.NO_SUCH);
        k.due("30 the one", x.laws(0, 2), 1);
        k.due("30 none", x.laws(0, 8), 0);
        Checks.text(x, "reach 1 ; sees 1 ; worth 1 ;");
        Checks.text(x, "reach 0 ; sees 1 ; worth 1 ;");
        Checks.text(x, "reach 9 ; sees second < 7 ; worth 1 ;");
        Checks.text(x, "reach 9 ; sees cell = 2 ; worth 1 ;");
        k.due("30 those", x.laws(0, 2), 1 | 2 | 16);
        x.force(2);
        k.due("30 whatever is the law", x.laws(0, 2), 1 | 2 | 16);
        k.due("30 which stays", x.count(5), 2);
        x.film(0, 2);
        k.due("30 never seen", x.laws(0, 2), 4 | 8);
        GuardsLookLeft nobody = new GuardsLookLeft();
        nobody.sheet(0, 0, 24);
        k.due("30 nobody", nobody.laws(0, 0), 1);
        GuardsLookLeft five = Checks.cellWithPacers(0, 0, 0, 0, 0);
        five.force(Checks.text(five, "reach 1 ; sees number = 4 ; worth 1 ;"));
        five.film(0, 2);
        k.due("30 the last of five", five.laws(0, 2), 3);
        five.sheet(0, 0, 24);
        k.due("30 the last of five sees it", five.laws(0, 2), 0);
        for (int v : Checks.WILD) {
            k.due("30 wild sheet", x.laws(v, 0), Checks.BAD);
            k.due("30 wild cell", x.laws(0, v), Checks.NO_SUCH);
        }
    }

    private static void gone(Checks k) {
        GuardsLookLeft x = Checks.cellWithPacers(7, 9);
        k.due("31 sheet", x.gone(4, 2), 0);
        k.due("31 missing", x.gone(0, 2), 0);
        x.sheet(0, 0, 3);
        k.due("31 size", x.gone(0, 2), 0);
        x.film(0, 2);
        k.due("31 cell", x.gone(0, 36), 0);
        k.due("31 none, or the later", x.gone(0, 2), 1 | 1 << 2);
        x.set(0, 0, 0);
        x.sheet(0, 0, 24);
        k.due("31 both", x.gone(0, 2), 1 << 3);
        k.due("31 any, of a cell that nobody sees", x.gone(0, 3), 15);
        k.due("31 his standing there, too", x.gone(0, 8), 1 << 3);
        x.cell(0, 4, 1);
        k.due("31 none at all", x.gone(0, 2), 0);
        GuardsLookLeft five = Checks.cellWithPacers(0, 0, 0, 0, 0);
        five.sheet(1, 1, 24);
        k.due("31 all five", five.gone(1, 2), 1 << 31);
        k.due("31 all sets", five.gone(1, 3), -1);
        k.due("31 no guards", new GuardsLookLeft().gone(0, 0), 0);
        for (int v : Checks.WILD) {
            k.due("31 wild sheet", x.gone(v, 0), 0);
            k.due("31 wild cell", x.gone(0, v), 0);
        }
    }

    private static void film(Checks k) {
        GuardsLookLeft x = Checks.cellWithPacers(7);
        k.due("32 sheet", x.film(4, 36), Checks.BAD);
        k.due("32 sheet -1", x.film(-1, 0), Checks.BAD);
        k.due("32 cell", x.film(0, 36), Checks.NO_SUCH);
        k.due("32 nothing came", x.cell(0, 0, 0), Checks.NOTHING);
        k.due("32 film", x.film(0, 2), 24);
        k.due("32 as it is", x.judge(0, 2), -1);
        k.due("32 24 of them", x.cell(0, 24, 0), Checks.OUTSIDE);
        k.due("32 the last of them", x.cell(0, 23, 70000), 1);
        x.sheet(1, 2, 24);
        k.due("32 ints", x.copy(0, 0, 1, 0, 24), 24);
        k.due("32 and what stood there is gone", x.film(0, 3), 24);
        k.due("32 never seen", x.judge(0, 3), -1);
        x.sheet(2, 0, 40);
        k.due("32 over another sort", x.film(2, 2), 24);
        k.due("32 is ints, too", x.copy(2, 0, 1, 0, 24), 24);
        x.set(0, 0, 5);
        k.due("32 stays when things change", x.judge(2, 2), 2);
        for (int v : Checks.WILD) {
            k.due("32 wild sheet", x.film(v, 0), Checks.BAD);
            k.due("32 wild cell", x.film(0, v), Checks.NO_SUCH);
        }
    }
}
