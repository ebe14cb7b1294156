/** Promises 6 to 9. */
public final class LawTest {
    private static final String REST = " ; sees 1 ; worth 1 ;";

    public static void main(String[] args) {
        Checks k = new Checks();
        feed(k);
        goodTexts(k);
        faults(k);
        fullOfTexts(k);
        force(k);
        values(k);
        asks(k);
        k.end("LawTest");
    }

    private static void feed(Checks k) {
        GuardsLookLeft x = new GuardsLookLeft();
        k.due("6 first", x.feed(1, 255, 0, 0, 0, 0), 1);
        k.due("6 three", x.feed(3, 1, 2, 3, 4, 5), 4);
        for (int v : new int[] {-1, 256, Integer.MIN_VALUE, Integer.MAX_VALUE}) {
            k.due("6 a", x.feed(1, v, 0, 0, 0, 0), Checks.BAD);
            k.due("6 b, not used", x.feed(1, 0, v, 0, 0, 0), Checks.BAD);
            k.due("6 c, not used", x.feed(1, 0, 0, v, 0, 0), Checks.BAD);
            k.due("6 d, not used", x.feed(1, 0, 0, 0, v, 0), Checks.BAD);
            k.due("6 e, not used", x.feed(1, 0, 0, 0, 0, v), Checks.BAD);
        }
        k.due("6 n 0", x.feed(0, 0, 0, 0, 0, 0), Checks.BAD);
        k.due("6 n 6", x.feed(6, 0, 0, 0, 0, 0), Checks.BAD);
        for (int v : Checks.WILD) {
            k.due("6 wild n", x.feed(v, 0, 0, 0, 0, 0), Checks.BAD);
        }
        for (int i = 0; i < 31; i++) {
            k.due("6 five", x.feed(5, 1, 2, 3, 4, 5), 9 + 5 * i);
        }
        k.due("6 no room for two", x.feed(2, 0, 0, 0, 0, 0), Checks.FULL);
        k.due("6 none came", x.count(6), 159);
        k.due("6 the last", x.feed(1, 0, 0, 0, 0, 0), 160);
        k.due("6 no room", x.feed(1, 0, 0, 0, 0, 0), Checks.FULL);
        k.due("6 bad ahead of full", x.feed(1, 256, 0, 0, 0, 0), Checks.BAD);
        GuardsLookLeft y = new GuardsLookLeft();
        feedFives(y, "reach 4 ; sees far < 3 ; worth 7 ;   ");
        k.due("6 in their order", y.text(), 1);
        y.force(1);
        k.due("6 the text told", y.asks(2, 0, 0, 0, 0), 7);
    }

    private static void feedFives(GuardsLookLeft x, String s) {
        for (int i = 0; i + 5 <= s.length(); i += 5) {
            x.feed(5, s.charAt(i), s.charAt(i + 1), s.charAt(i + 2), s.charAt(i + 3), s.charAt(i + 4));
        }
    }

    private static void goodTexts(Checks k) {
        String[] good = {
            "reach3;sees1;worth1;", "\n\n reach\n3 ;sees\n1 ; worth 1 ; \n ", "reach 9999" + REST, "reach 0000" + REST,
            "reach (((((1)))))+(((((1)))))" + REST, "reach not not not not not 1 and not not not not not 1" + REST,
            "reach -----1------1" + REST, "reach (((((1-1)))))" + REST, "reach -(-(-1))" + REST,
            "reach not - ( not ( 1 ) ) or not - ( not - 1 )" + REST, "reach - 1 - - - - - - 1" + REST,
            "reach far+lit*more-second<number+cell" + REST, "reach (1<2)<3" + REST,
            "reach not 1<2 or not 1=1 and 2" + REST,
        };
        for (String text : good) {
            GuardsLookLeft x = new GuardsLookLeft();
            k.due("7 " + text, Checks.text(x, text), 1);
            k.due("7 the tape is empty", x.count(6), 0);
            k.due("7 texts", x.count(4), 2);
            k.due("7 not yet the law", x.count(5), 0);
        }
        StringBuilder longest = new StringBuilder("reach 1");
        for (int i = 0; longest.length() + REST.length() < 159; i++) {
            longest.append("+1");
        }
        longest.append(REST);
        while (longest.length() < 160) {
            longest.append(' ');
        }
        GuardsLookLeft x = new GuardsLookLeft();
        k.due("7 160 bytes", Checks.text(x, longest.toString()), 1);
        x.force(1);
        k.due("7 all of them", x.asks(0, 0, 0, 0, 0), 9);
    }

    /** An @ stands ahead of the token that is at fault. */
    private static void faults(Checks k) {
        String[] bad = {
            "@", "   @", "@3", "@sees 1 ;", "@far", "reach@", "reach @;", "reach @reach 3", "reach 3 @3 ;", "reach 3@",
            "reach 3 @sees", "reach 3 ; @reach", "reach 3 ; @worth 1 ;", "reach 3 ; sees 1 ; worth 1 @",
            "reach 3 ; sees 1 ; worth 1 ;  @;", "reach 3 ; sees 1 ; worth 1 ; @reach 3 ; sees 1 ; worth 1 ;",
            "reach 3 ; sees 1 ; worth 1 ; @12345", "reach 3 ; sees 1 ; worth 1 ; @!",
            "reach 3 ; sees 1 ; \n \n@", "reach @12345 ;", "reach @00001 ;", "reach 1 + @10000000000000000000000 ;",
            "reach @fars ;", "reach @fa ;", "reach @farz ;", "reach @xar ;", "reach @fax ;", "@teach 1", "@xeach", "reach 1 @xr 1",
            "reach 1 @worth 2 ;", "reach 1 @sees 2 ;", "reach 1 ; @or 1 ;", "reach 1 ; sees 1 ; @and 1 ;", "@not 1 ;", "reach @reachs ;", "@reachfar ;", "reach far@2 ;", "reach 2@far ;",
            "reach 1 @, ;", "reach @A ;", "reach @fAr", "reach@\t3 ;", "reach@\r3 ;", "reach 1 @> 2 ;", "reach 1 @/ 2 ;",
            "reach 1 @: 2", "reach 1 @' 2", "reach 1 @\u00e9 2", "reach 1 @\0 2", "reach 1 @` 2", "reach 1 @{ 2",
            "reach 1 < 2 @< 3 ;", "reach 1 = 2 @= 3 ;", "reach 1 < 2 @= 3 ;", "reach 1 < @< 2 ;", "reach 1 < @not 1 ;",
            "reach - @not 1 ;", "reach 1 + @not 1", "reach 1 @not 1", "reach not @and 1", "reach 1 and @or 1",
            "reach 1 or@", "reach 1 * @* 1", "reach @* 1", "reach @+ 1", "reach 1 + @+ 1 ;", "reach 1 - @) ;",
            "reach ( 1 @; sees", "reach 1 @) ;", "reach ( @) ;", "reach ( 1 @( ;", "reach (1)@(1) ;", "reach (1)@1 ;",
            "reach ((((( @( 1 )))))) ;", "reach not not not not not @not 1 ;", "reach - - - - - @- 1 ;",
            "reach ((((( @- 1 ))))) ;", "reach ((((( @not 1 ))))) ;", "reach not not not not not @( 1 ) ;",
            "reach not not not not not 1 < @- 1 ;", "reach not - ( not ( @( 1 ) ) ) ;", "reach - - - - - @( 1 ) ;",
            "reach 1 - - - - - - @- 1 ;", "reach ( 1 + ( 2 * ( 3 - ( 4 + ( 5 * @- 6 ) ) ) ) ) ;",
            "reach ((((( 1 ))))) ; sees ((((( @( 1 ;",
        };
        for (String marked : bad) {
            GuardsLookLeft x = new GuardsLookLeft();
            int place = marked.indexOf('@');
            k.due("7 fault: " + marked, Checks.text(x, marked.replace("@", "")), -100 - place);
            k.due("7 the tape is empty, too", x.count(6), 0);
            k.due("7 no text", x.count(4), 1);
        }
        GuardsLookLeft x = new GuardsLookLeft();
        String full = "reach 1" + " ".repeat(153);
        k.due("7 fault at the end of a full tape", Checks.text(x, full), -260);
        for (String last : new String[] {"-", "9", "far", "fa", "reach"}) {
            String ending = "reach 1 + " + " ".repeat(150 - last.length()) + last;
            int place = last.equals("fa") || last.equals("reach") ? 158 - 3 * (last.length() / 5) : 160;
            k.due("7 a full tape that ends in " + last, Checks.text(x, ending), -100 - place);
        }
        k.due("7 too long", Checks.text(x, "reach 12345"), -106);
        k.due("7 not by what an earlier tape had behind it", Checks.text(x, "reach 12"), -108);
        k.due("7 a word", Checks.text(x, "reach farther"), -106);
        k.due("7 nor a word", Checks.text(x, "reach far"), -109);
    }

    private static void fullOfTexts(Checks k) {
        GuardsLookLeft x = new GuardsLookLeft();
        for (int t = 1; t < 6; t++) {
            k.due("7 number", Checks.text(x, "reach " + t + REST), t);
            if (t < 5) {
                k.due("7 a fault between", Checks.text(x, "reach 8 8" + REST), -108);
            }
        }
        k.due("7 full with an empty tape", x.text(), Checks.FULL);
        Checks.feed(x, "!");
        k.due("7 full ahead of the fault", x.text(), Checks.FULL);
        k.due("7 then the tape stays", x.count(6), 1);
        k.due("7 six", x.count(4), 6);
        for (int t = 1; t < 6; t++) {
            x.force(t);
            k.due("7 each keeps what it says", x.asks(0, 0, 0, 0, 0), t);
        }
    }

    private static void force(Checks k) {
        GuardsLookLeft x = new GuardsLookLeft();
        k.due("8 none yet", x.force(1), Checks.BAD);
        k.due("8 itself", x.force(0), 0);
        Checks.text(x, "reach 5 ; sees 0 ; worth 50 ;");
        k.due("8 first", x.force(1), 0);
        k.due("8 the law", x.count(5), 1);
        k.due("8 says", x.asks(0, 0, 0, 0, 0), 5);
        k.due("8 what is seen follows", x.guard(1, 14, 10, 0) + x.watched(0), 1L << 14);
        k.due("8 back", x.force(0), 1);
        k.due("8 what is seen follows again", x.watched(0), 1L << 14 | 1L << 20);
        k.due("8 -1", x.force(-1), Checks.BAD);
        k.due("8 2", x.force(2), Checks.BAD);
        for (int v : Checks.WILD) {
            k.due("8 wild", x.force(v), Checks.BAD);
        }
        k.due("8 unchanged", x.count(5), 0);
    }

    private static void value(Checks k, String e, int due) {
        GuardsLookLeft x = Checks.withLaw("reach 1 ; sees 1 ; worth " + e + " ;");
        k.due("9 " + e, x.asks(2, 37, 4, 5, 628), due);
        GuardsLookLeft y = Checks.withLaw("reach " + e + " ; sees " + e + " ; worth 1 ;");
        k.due("9 reach " + e, y.asks(0, 37, 4, 5, 628), Math.min(9, due));
        if (due > 0 && due < 99) {
            k.due("9 sees " + e, y.asks(1, 37, 4, 5, 628), 1);
        }
    }

    private static void values(Checks k) {
        value(k, "far", 3);
        value(k, "lit", 7);
        value(k, "more", 4);
        value(k, "second", 5);
        value(k, "number", 6);
        value(k, "cell", 28);
        value(k, "0", 0);
        value(k, "99", 99);
        value(k, "100", 99);
        value(k, "-1", 0);
        value(k, "2+3*4", 14);
        value(k, "(2+3)*4", 20);
        value(k, "9-3-2", 4);
        value(k, "9-(3-2)", 8);
        value(k, "2*3+4*5", 26);
        value(k, "- 2 + 7", 5);
        value(k, "- - 7", 7);
        value(k, "-2*-3", 6);
        value(k, "7--3", 10);
        value(k, "5 or 0", 1);
        value(k, "0 or 0", 0);
        value(k, "0 or -3", 1);
        value(k, "5 and 7", 1);
        value(k, "5 and 0", 0);
        value(k, "2 and 1", 1);
        value(k, "1 or 1 and 0", 1);
        value(k, "(1 or 1) and 0", 0);
        value(k, "not 5", 0);
        value(k, "not 0", 1);
        value(k, "not not 7", 1);
        value(k, "not 0 + 1", 0);
        value(k, "not 3 < 2", 1);
        value(k, "not 0 or 1", 1);
        value(k, "not 0 and 0", 0);
        value(k, "2 < 3", 1);
        value(k, "3 < 3", 0);
        value(k, "-1 < 0", 1);
        value(k, "3 = 3", 1);
        value(k, "3 = 4", 0);
        value(k, "1 + 2 = 3", 1);
        value(k, "1 + 1 < 1 * 3", 1);
        value(k, "(2 < 3) + (3 = 3)", 2);
        value(k, "0 < 1 and 1 < 2", 1);
        value(k, "9999*9999*22 < 0", 9999 * 9999 * 22 < 0 ? 1 : 0);
        value(k, "9999*9999*99 < 9999*9999", 9999 * 9999 * 99 < 9999 * 9999 ? 1 : 0);
        value(k, "8192*8192*32 < 0", 1);
        value(k, "8192*8192*32 = - (8192*8192*32)", 1);
        value(k, "8192*8192*32 - 1 < 0", 0);
        value(k, "8192*8192*64", 0);
        GuardsLookLeft x = Checks.withLaw("reach 1 ; sees -5 ; worth 1 ;");
        k.due("9 sees what is not 0", x.asks(1, 0, 0, 0, 0), 1);
        GuardsLookLeft y = Checks.withLaw("reach 10 ; sees 0 ; worth 1 ;");
        k.due("9 the reach's bound", y.asks(0, 0, 0, 0, 0), 9);
        k.due("9 sees nothing", y.asks(1, 0, 0, 0, 0), 0);
    }

    private static void asks(Checks k) {
        GuardsLookLeft x = Checks.withLaw("reach far ; sees lit = 9 and far = 9 ; worth number * 10 + more ;");
        k.due("9 greatest", x.asks(0, 99, 9, 23, 999), 9);
        k.due("9 greatest sees", x.asks(1, 99, 9, 23, 999), 1);
        k.due("9 greatest worth", x.asks(2, 99, 9, 23, 999), 99);
        k.due("9 least", x.asks(0, 0, 0, 0, 0), 0);
        k.due("9 part 3", x.asks(3, 0, 0, 0, 0), Checks.BAD);
        k.due("9 farLit 100", x.asks(0, 100, 0, 0, 0), Checks.BAD);
        k.due("9 more 10", x.asks(0, 0, 10, 0, 0), Checks.BAD);
        k.due("9 second 24", x.asks(0, 0, 0, 24, 0), Checks.BAD);
        k.due("9 numberCell 1000", x.asks(0, 0, 0, 0, 1000), Checks.BAD);
        for (int v : Checks.WILD) {
            k.due("9 wild part", x.asks(v, 0, 0, 0, 0), Checks.BAD);
            k.due("9 wild farLit", x.asks(0, v, 0, 0, 0), Checks.BAD);
            k.due("9 wild more", x.asks(0, 0, v, 0, 0), Checks.BAD);
            k.due("9 wild second", x.asks(0, 0, 0, v, 0), Checks.BAD);
            k.due("9 wild numberCell", x.asks(0, 0, 0, 0, v), Checks.BAD);
        }
        GuardsLookLeft y = Checks.withLaw("reach 1 ; sees 1 ; worth cell ;");
        k.due("9 cell 99", y.asks(2, 0, 0, 0, 999), 99);
        k.due("9 cell 0", y.asks(2, 0, 0, 0, 900), 0);
        GuardsLookLeft n = Checks.withLaw("reach 1 ; sees 1 ; worth number * 10 + lit ;");
        k.due("9 number", n.asks(2, 0, 0, 0, 600), 60);
        k.due("9 number below", n.asks(2, 0, 0, 0, 599), 50);
        k.due("9 lit of far and lit", n.asks(2, 90, 0, 0, 0), 0);
    }
}
