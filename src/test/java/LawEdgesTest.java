import java.util.ArrayList;
import java.util.List;

/** The boundaries of promises 7 to 9, and of the terms that they use (TEXTS, FAULT, an E). */
public final class LawEdgesTest {
    private static final List<String> NEW = Edges.NEW, RICH = Edges.RICH, FULL = Edges.FULL;
    private static final List<String> NO_TAPE = Edges.without(RICH, "tape("), FULL_NO_TAPE = Edges.without(FULL, "tape(");
    private static final String GOOD = "reach 1 ; sees 1 ; worth 1 ;", REST = " ; sees 1 ; worth 1 ;";
    private static final String[] OPENERS = {"( ", "not ", "- "};

    public static void main(String[] args) {
        Edges e = new Edges("LawEdgesTest");
        text(e);
        afterOthers(e);
        full(e);
        tokens(e);
        everyByte(e);
        endsTooEarly(e);
        parts(e);
        expressions(e);
        fiveOpen(e);
        closed(e);
        force(e);
        values(e);
        wrapping(e);
        bounds(e);
        asks(e);
        e.end();
    }

    private static void good(Edges e, String sentence, String... texts) {
        for (String text : texts) {
            e.answers(sentence, NEW, "says(" + text + ") -> 1", "count(6) -> 0", "count(4) -> 2");
        }
    }

    /** An @ stands ahead of what is at fault. */
    private static void fault(Edges e, String sentence, String... marked) {
        for (String text : marked) {
            int place = text.indexOf('@');
            if (place < 0) throw new IllegalStateException("no place: " + text);
            String bare = text.replace("@", "");
            e.answers(sentence, NEW, (bare.isEmpty() ? "text()" : "says(" + bare + ")") + " -> " + (-100 - place),
                "count(6) -> 0", "count(4) -> 1", "says(" + GOOD + ") -> 1");
        }
    }

    private static void text(Edges e) {
        e.answers("7: its number", NEW, "says(" + GOOD + ") -> 1", "says(" + GOOD + ") -> 2", "count(4) -> 3", "count(5) -> 0");
        e.answers("7: THE TAPE is empty then", RICH, "count(6) -> 38", "text() -> 3", "count(6) -> 0", "text() -> -100");
        e.answers("7: it is empty by a FAULT, too", RICH, "feed(1, 33, 0, 0, 0, 0) -> 39", "text() -> -138", "count(6) -> 0",
            "text() -> -100", "says(" + GOOD + ") -> 3");
        e.same("7: by a FAULT nothing else is changed", Edges.with(RICH, "feed(1, 33, 0, 0, 0, 0)", "text()"), NO_TAPE);
        e.same("7: nor by one at the end", Edges.with(NO_TAPE, "says(reach 1 ; sees)"), NO_TAPE);
        e.same("7: nor by one with five texts", Edges.with(NEW, "says(" + GOOD + ")", "says(worth)", "says(" + GOOD + ")"),
            Edges.with(NEW, "says(" + GOOD + ")", "says(" + GOOD + ")"));
        e.same("7: an empty tape's FAULT changes nothing", Edges.with(NO_TAPE, "text()"), NO_TAPE);
        e.answers("7: -100 less 0, the least place", NEW, "text() -> -100", "says(!) -> -100", "says(sees) -> -100");
        e.answers("7: -100 less 159", NEW, "says(reach 1" + " ".repeat(152) + "!) -> -259");
        e.answers("7: -100 less 160, the greatest place", NEW, "says(reach 1" + " ".repeat(153) + ") -> -260", "count(6) -> 0");
        e.answers("7: blanks alone", NEW, "says( ) -> -101", "says(\n) -> -101", "says(" + " ".repeat(160) + ") -> -260");
        e.answers("7: a TEXT of 160 bytes", NEW, "says(reach 1+" + "0".repeat(4) + "+1".repeat(63) + REST + " ) -> 1", "force(1) -> 0",
            "asks(0, 0, 0, 0, 0) -> 9");
        e.answers("7: a TEXT of 160 bytes, blanks at its end", NEW, "says(" + GOOD + " ".repeat(132) + ") -> 1");
        e.answers("7: a TEXT is not THE LAW by being one", NEW, "says(reach 9 ; sees 0 ; worth 9 ;) -> 1", "count(5) -> 0",
            "asks(0, 0, 0, 0, 0) -> 3", "asks(2, 0, 0, 0, 0) -> 1");
        e.same("7: what is seen stays", Edges.with(RICH, "watched(0)", "text()"), Edges.with(RICH, "text()"));
    }

    /** What an earlier tape had, or a FAULT had read, does not matter. */
    private static void afterOthers(Edges e) {
        e.answers("7: THE TAPE ends where it ends: a NUMBER", NEW, "says(reach 12345) -> -106", "says(reach 12) -> -108", "says(reach 1) -> -107");
        e.answers("7: THE TAPE ends where it ends: a WORD", NEW, "says(reach farther) -> -106", "says(reach far) -> -109", "says(reach fa) -> -106");
        e.answers("7: THE TAPE ends where it ends: a NUMBER, a WORD at the end of a full one", NEW, "says(reach 1 +" + " ".repeat(150) + "9) -> -260", "says(reach 1 +" + " ".repeat(148) + "far) -> -260",
            "says(reach 1 +" + " ".repeat(147) + "1234) -> -260", "says(reach 1 +" + " ".repeat(149) + "fa) -> -258");
        Called x = new Called(NEW);
        String ones = "+1".repeat(65);
        for (int t = 1; t < 6; t++) {
            x.call("says(reach 1" + ones + " ; sees)");
            e.due("7: long TEXTS, and FAULTS of long ones: its number", x.call("says(reach " + t + ";sees 1;worth " + t + ones + ";)"), t);
        }
        for (int t = 1; t < 6; t++) {
            x.call("force(" + t + ")");
            e.due("7: each of five long TEXTS tells its own reach", x.call("asks(0, 0, 0, 0, 0)"), t);
            e.due("7: each of five long TEXTS tells its own worth", x.call("asks(2, 0, 0, 0, 0)"), t + 65);
        }
    }

    private static void full(Edges e) {
        e.answers("7: six TEXTS, with TEXT 0", NEW, "says(reach 1" + REST + ") -> 1", "says(reach 2" + REST + ") -> 2",
            "says(reach 3" + REST + ") -> 3", "says(reach 4" + REST + ") -> 4", "says(reach 5" + REST + ") -> 5", "count(4) -> 6",
            "says(reach 6" + REST + ") -> FULL", "count(4) -> 6", "force(5) -> 0", "asks(0, 0, 0, 0, 0) -> 5", "force(6) -> BAD");
        e.refused("7: FULL: then THE TAPE stays", FULL, "text() -> FULL");
        e.refused("7: FULL with an empty tape (ahead of its FAULT)", FULL_NO_TAPE, "text() -> FULL");
        List<String> atFault = Edges.with(FULL_NO_TAPE, "tape(reach !)");
        e.refused("7: FULL ahead of the FAULT: then THE TAPE stays", atFault, "text() -> FULL");
        e.refused("7: FULL twice", Edges.with(atFault, "text()"), "text() -> FULL");
        e.answers("7: FULL ahead of the FAULT", atFault, "text() -> FULL", "count(6) -> 7", "feed(1, 59, 0, 0, 0, 0) -> 8");
        e.answers("7: FULL for a good text", FULL, "text() -> FULL", "count(6) -> 160", "feed(1, 59, 0, 0, 0, 0) -> FULL");
    }

    private static void tokens(Edges e) {
        good(e, "TOKENS: none need stand between", "reach1;sees1;worth1;", "reach(1);sees-1;worth-(1);", "reach 1or 2;sees 1and 1;worth 1<2;");
        good(e, "TOKENS: blanks (32, 10) may stand between", " reach 1 ; sees 1 ; worth 1 ; ", "\nreach\n1\n;\nsees\n1\n;\nworth\n1\n;\n",
            "  reach \n\n 1 ;sees 1;worth \n( 1 \n + 2 )\n; \n ");
        fault(e, "TOKENS: no blanks within a WORD, a NUMBER", "@re ach 1 ;", "reach 1 @2 ;", "reach 1 ; @se es", "reach @fa r");
        fault(e, "TOKENS, each as long as can be: WORDS", "@reachfar ;", "@reachreach 1", "reach @notfar ;", "reach 1 @orlit ;", "reach @farfar",
            "reach @secondnumber ;", "reach @cellx ;", "reach 1 @andnot 1");
        fault(e, "TOKENS, each as long as can be: NUMBERS", "reach @12345", "reach @99991 ;", "reach 1@far ;", "reach far@1 ;", "reach 1 + @12345 + 1");
        good(e, "NUMBERS of 4 are not too long", "reach 9999" + REST, "reach 0000" + REST, "reach 1 ; sees 1 ; worth 1234 ;");
        fault(e, "NUMBERS of more than 4 are too long", "reach @10000 ;", "reach @00000 ;", "reach @00001 ;", "reach @999999999999999999999 ;",
            "reach 1 ; sees @12345 ;", "reach 1 ; sees 1 ; worth @12345 ;");
        good(e, "a NUMBER of 4 at the end of 5 is another token", "reach 9999+9999" + REST);
        fault(e, "a WORD that is neither KEY nor NAME", "@x", "@rea", "@reac 1", "@eeach", "reach @x ;", "reach @fa ;", "reach @lits ;", "reach @mor ;",
            "reach @secon ;", "reach @numbers ;", "reach @cel ;", "reach @ar ;", "reach 1 @xor 1", "reach 1 @an 1", "reach @no 1", "reach @nots 1",
            "reach 1 ; @see 1", "reach 1 ; @seen 1", "reach 1 ; sees 1 ; @wort 1", "reach 1 ; sees 1 ; @worths 1");
        fault(e, "a KEY that can't stand there", "@sees 1", "@worth", "@or", "@and", "@not", "reach @reach", "reach @sees", "reach @worth", "reach @or 1",
            "reach @and 1", "reach 1 @not 1", "reach 1 @reach", "reach 1 @sees", "reach 1 @worth", "reach 1 or @or", "reach 1 and @or 1", "reach 1 or @and 1");
        fault(e, "a NAME that can't stand there", "@far", "reach 1 @far", "reach far @far", "reach (1) @lit", "reach 1 ; @cell", GOOD + " @number");
        fault(e, "a NUMBER that can't stand there", "@1", "reach 1 @1", "reach far @1", "reach (1) @1", "reach 1 ; @1", GOOD + " @1");
    }

    /** Each byte at three places; what it is tells where the fault is. */
    private static void everyByte(Edges e) {
        for (int b = 0; b < 256; b++) {
            char sign = (char) b;
            boolean blank = b == 32 || b == 10;
            boolean digit = b >= '0' && b <= '9';
            boolean joins = "+-*<=".indexOf(sign) >= 0;
            String told = "a byte that begins none: " + b;
            if (b == '@') {
                e.answers(told, NEW, "says(@) -> -100", "says(reach @) -> -106", "says(reach 1 @) -> -108", "says(reach 1@) -> -107",
                    "says(reach far@) -> -109");
                continue;
            }
            fault(e, told + ", at first", blank ? sign + "@" : "@" + sign);
            fault(e, told + ", for an E", blank || digit || b == '(' || b == '-' ? "reach " + sign + "@" : "reach @" + sign);
            fault(e, told + ", behind an E", blank || joins || b == ';' ? "reach 1 " + sign + "@" : "reach 1 @" + sign);
            fault(e, told + ", close behind a NUMBER", blank || joins || digit || b == ';' ? "reach 1" + sign + "@" : "reach 1@" + sign);
            boolean letter = b >= 'a' && b <= 'z';
            fault(e, told + ", close behind a WORD", letter ? "reach @far" + sign : blank || joins || b == ';' ? "reach far" + sign + "@" : "reach far@" + sign);
            fault(e, told + ", at the end", blank ? "reach 1 ; sees 1 ; worth 1 " + sign + "@" : b == ';' ? GOOD + "@;"
                : GOOD + "@" + sign);
        }
    }

    private static void endsTooEarly(Edges e) {
        for (int size = 0; size < GOOD.length(); size++) {
            boolean inReach = size > 0 && size < 5, inSees = size > 10 && size < 14, inWorth = size > 19 && size < 24;
            int place = inReach ? 0 : inSees ? 10 : inWorth ? 19 : size;
            String begun = GOOD.substring(0, size);
            fault(e, "the text's size, if it ends too early: " + size, begun.substring(0, place) + "@" + begun.substring(place));
        }
        fault(e, "the text's size, blanks too", "@", " @", "\n\n@", "reach  @", "reach 1 \n @", "reach 1 ;  @", "reach 1 ; sees 1 ; worth 1   @");
        fault(e, "the text's size, within an E", "reach (@", "reach -@", "reach not@", "reach 1 +@", "reach 1 -@", "reach 1 *@", "reach 1 <@",
            "reach 1 =@", "reach 1 or@", "reach 1 and@", "reach (1@", "reach ((1)@", "reach 1 ; sees (((((1))))@", "reach not not not not not@");
        good(e, "it doesn't end too early", GOOD);
    }

    private static void parts(Edges e) {
        fault(e, "TEXT: reach E ; sees E ; worth E ;", "@sees 1 ; worth 1 ;", "@worth 1 ; reach 1", "reach 1 ; @worth 1 ;", "reach 1 ; @reach 1 ;",
            "reach 1 ; sees 1 ; @sees 1", "reach 1 ; sees 1 ; @reach", "reach 1 @sees 1", "reach 1 ; sees 1 @worth 1", "@;", "reach @;", "reach 1 ; @;",
            "reach 1 ; sees @;", "reach 1 ; sees 1 ; worth @;", "reach 1 ; sees 1 ; @;");
        fault(e, "TEXT: no TOKEN behind it", GOOD + "@;", GOOD + " @reach", GOOD + "@1", GOOD + "@" + GOOD, GOOD + "\n@(", GOOD + " @12345", GOOD + "@A");
    }

    private static void expressions(Edges e) {
        good(e, "E: AND { or AND }", "reach 1 or 1 or 1 or 1" + REST);
        good(e, "AND: NOT { and NOT }", "reach 1 and 1 and 1 or 1 and not 1" + REST);
        good(e, "NOT: not NOT, or SUM, perhaps < or = and a SUM", "reach not not 1" + REST, "reach not 1 < 2" + REST, "reach 1 = 2" + REST,
            "reach 1 + 1 < 2 * 2" + REST, "reach (1 < 2) < (2 = 3)" + REST);
        fault(e, "NOT: one < or = alone", "reach 1 < 2 @< 3", "reach 1 = 2 @= 3", "reach 1 < 2 @= 3", "reach 1 = 2 @< 3", "reach not 1 < 2 @< 3");
        fault(e, "NOT: a SUM behind < and =", "reach 1 < @; sees", "reach 1 = @not 1", "reach 1 < @< 1", "reach 1 < @= 1", "reach 1 = @or", "reach @< 1", "reach @= 1");
        fault(e, "NOT: a NOT behind not", "reach not @;", "reach not @or 1", "reach not @)", "reach not @< 1", "reach not @+ 1");
        good(e, "SUM: TERM { + or - TERM }", "reach 1 + 1 - 1 + 1" + REST, "reach 1 - - 1" + REST, "reach - 1 - 1" + REST);
        fault(e, "SUM: a TERM behind + and -", "reach 1 + @;", "reach 1 + @+ 1", "reach 1 - @* 1", "reach 1 + @not 1", "reach @+ 1", "reach 1 - @)");
        good(e, "TERM: ONE { * ONE }", "reach 1 * 1 * 1" + REST, "reach 1 * - 1" + REST, "reach - 1 * (1)" + REST);
        fault(e, "TERM: a ONE behind *", "reach 1 * @;", "reach 1 * @* 1", "reach 1 * @+ 1", "reach 1 * @not 1", "reach @* 1");
        good(e, "ONE: a NUMBER, a NAME, - ONE, ( E )", "reach 0" + REST, "reach far+lit+more+second+number+cell" + REST, "reach -far" + REST,
            "reach (1 or 1 and not 1 < 1)" + REST);
        fault(e, "ONE: - ONE", "reach - @;", "reach - @not 1", "reach - @+ 1", "reach - @)", "reach - @or", "reach - @reach");
        fault(e, "ONE: ( E )", "reach ( @)", "reach (1 @; sees", "reach (1 @(", "reach (1 @1", "reach (1 @not",
            "reach 1 @)", "reach (1) @)", "reach (1)@(1)", "reach 1 @(1)", "reach far@(1)", "reach (@;");
        good(e, "an E in each of the three", "reach not 1 or - (2) < 3 ; sees not 1 or - (2) < 3 ; worth not 1 or - (2) < 3 ;");
    }

    /** All rows of n of ( not - that can stand; a not never stands behind a - . */
    private static List<String> rows(int n) {
        List<String> rows = new ArrayList<>(List.of(""));
        for (int i = 0; i < n; i++) {
            List<String> longer = new ArrayList<>();
            for (String row : rows) {
                for (String opener : OPENERS) {
                    if (!row.endsWith("- ") || !opener.equals("not ")) longer.add(row + opener);
                }
            }
            rows = longer;
        }
        return rows;
    }

    private static String closed(String row) {
        StringBuilder all = new StringBuilder(row).append('1');
        for (int i = 0; i < row.length(); i++) {
            if (row.charAt(i) == '(') all.append(')');
        }
        return all.toString();
    }

    private static void fiveOpen(Edges e) {
        for (String row : rows(5)) {
            good(e, "5 may be open", "reach " + closed(row) + REST);
            for (String opener : OPENERS) {
                fault(e, "a " + opener + "while 5 are open", "reach " + row + "@" + opener);
            }
            good(e, "a - of a SUM opens nothing", "reach " + closed(row).replaceFirst("1", "1-1") + REST);
        }
        fault(e, "a - ahead of a ONE behind the - of a SUM, while 5 are open", "reach (((((1 - @- 1", "reach not not not not not 1 - @- 1",
            "reach not not not not ( 1 - 1 - @- 1");
        fault(e, "in each of the three", "reach 1 ; sees ((((( @( 1", "reach 1 ; sees 1 ; worth - - - - - @- 1", "reach (((((1))))) ; sees not not not not not @not 1");
    }

    private static void closed(Edges e) {
        good(e, "a ( till its )", "reach (((((1)))))+(((((1)))))" + REST, "reach (((((1)+(1))+((1)))))" + REST, "reach (((((1)*(1)*(1)))))" + REST,
            "reach (1)+(1)+(1)+(1)+(1)+(1)+(1)" + REST, "reach (((((1))))) ; sees (((((1))))) ; worth (((((1))))) ;");
        fault(e, "a ( till its )", "reach (((((1)+(@(1", "reach (((((1)+(1)+(@-1", "reach (((((1 + @(1", "reach ((((1)+((@(1");
        good(e, "not till what it belongs to ends", "reach not not not not not 1 or not not not not not 1" + REST,
            "reach not not not not not 1 and not not not not not 1" + REST, "reach (not not not not 1) + (not not not not 1)" + REST,
            "reach not 1 and not 1 and not 1 and not 1 and not 1 and not 1 and not 1" + REST);
        fault(e, "not till what it belongs to ends", "reach not not not not not 1 < @- 1", "reach not not not not not 1 = @( 1", "reach not not not not not 1 + @( 1",
            "reach not not not not not 1 * @- 1", "reach not not not not - 1 < - @- 1", "reach not not not not - 1 + ( @( 1");
        good(e, "not till what it belongs to ends: a - has ended", "reach not not not not - 1 < - 1" + REST, "reach not not not not (1) + - 1 * (1)" + REST);
        good(e, "- till what it belongs to ends", "reach -----1-----1" + REST, "reach -----1*-----1+-----1<-----1" + REST,
            "reach -1--1--1--1--1--1--1" + REST, "reach ----(1)*----(1)" + REST, "reach (((((1)*-1)*-1)*-1))*-1" + REST);
        fault(e, "- till what it belongs to ends", "reach ----(1*@-1", "reach ----(1 + @(1", "reach - - - - ( @not 1", "reach -(-(-@- 1");
    }

    private static void force(Edges e) {
        e.answers("8: which was", RICH, "force(2) -> 1", "force(2) -> 2", "force(0) -> 2", "force(1) -> 0", "count(5) -> 1");
        e.answers("8: the last of six", FULL, "force(5) -> 3", "count(5) -> 5", "asks(0, 0, 0, 0, 0) -> 5", "force(0) -> 5", "asks(0, 0, 0, 0, 0) -> 3");
        e.refused("8: BAD", RICH, "force(-1) -> BAD", "force(3) -> BAD", "force(5) -> BAD", "force(MIN) -> BAD", "force(MAX) -> BAD");
        e.refused("8: BAD, of one alone", NEW, "force(1) -> BAD", "force(-1) -> BAD");
        e.refused("8: BAD, of six", FULL, "force(6) -> BAD", "force(-1) -> BAD");
        e.answers("8: a FAULT is no TEXT", NEW, "says(reach) -> -105", "force(1) -> BAD");
        e.changesNothing("8: the same again", RICH, "force(1) -> 1");
        e.same("8: what is seen follows", Edges.with(RICH, "watched(0)", "force(2)", "watched(0)", "force(0)"), Edges.with(RICH, "force(0)"));
        e.unlike("8: THE LAW matters", RICH, Edges.with(RICH, "force(0)"));
    }

    private static void value(Edges e, String sentence, String expression, int due) {
        e.answers(sentence, NEW, "says(reach 1 ; sees 1 ; worth " + expression + " ;) -> 1", "force(1) -> 0", "asks(2, 37, 4, 5, 628) -> " + due);
    }

    private static void values(Edges e) {
        String truth = "1 or 0 (what is not 0 is true): ";
        for (String is : new String[] {"1", "2", "-1", "9999", "(8192*8192*32)", "256*256"}) {
            value(e, truth + "or", is + " or 0", 1);
            value(e, truth + "or", "0 or " + is, 1);
            value(e, truth + "or", is + " or " + is, 1);
            value(e, truth + "or", is + " or - " + is, 1);
            value(e, truth + "and", is + " and 0", 0);
            value(e, truth + "and", "0 and " + is, 0);
            value(e, truth + "and", is + " and " + is, 1);
            value(e, truth + "not", "not " + is, 0);
            value(e, truth + "not", "not not " + is, 1);
        }
        value(e, truth + "or", "0 or 0", 0);
        value(e, truth + "and", "0 and 0", 0);
        value(e, truth + "not", "not 0", 1);
        value(e, truth + "and, of unlike bits", "1 and 2", 1);
        value(e, truth + "and, whose product wraps to 0", "256*256 and 256*256", 1);
        value(e, truth + "or, whose sum is 0", "1 or -1", 1);
        value(e, truth + "<", "(1 < 2) * 50", 50);
        value(e, truth + "<", "(2 < 2) * 50", 0);
        value(e, truth + "<", "(3 < 2) * 50", 0);
        value(e, truth + "=", "(2 = 2) * 50", 50);
        value(e, truth + "=", "(2 = 3) * 50 + (3 = 2) * 50", 0);
        value(e, "below 0: <", "-1 < 0", 1);
        value(e, "below 0: =", "0 = - 0", 1);
        value(e, "E: or behind and", "1 or 0 and 0", 1);
        value(e, "E: or behind and", "0 and 0 or 1", 1);
        value(e, "AND: behind not", "not 0 and 0", 0);
        value(e, "NOT: not behind <", "not 1 < 1", 1);
        value(e, "NOT: < behind +", "1 + 1 < 1 + 2", 1);
        value(e, "SUM: one behind the other", "9 - 3 - 2", 4);
        value(e, "SUM: one behind the other", "9 - 3 + 2", 8);
        value(e, "SUM: behind TERM", "2 + 3 * 4", 14);
        value(e, "TERM: - ONE", "- 2 * - 3", 6);
        value(e, "ONE: ( E )", "(2 + 3) * 4", 20);
        value(e, "NUMBERS", "0007 + 0010", 17);
        value(e, "NUMBERS, the greatest", "9999 - 9950", 49);
    }

    private static void wrapping(Edges e) {
        String most = "(8192*8192*32-1)", least = "8192*8192*32";
        value(e, "wrapping: *", least + " < 0", 1);
        value(e, "wrapping: * to 0", "(8192*8192*64 = 0) * 7", 7);
        value(e, "wrapping: *, the lowest 32 bits", "9999*9999*43 = 9999*417+3164", 1);
        value(e, "wrapping: +", most + " + 1 < 0", 1);
        value(e, "wrapping: +", most + " + 1 = " + least, 1);
        value(e, "wrapping: +, twice the most", most + " + " + most + " + 9", 7);
        value(e, "wrapping: -", "0 < " + least + " - 1", 1);
        value(e, "wrapping: -", least + " - 1 = " + most, 1);
        value(e, "wrapping: - ONE", "- (" + least + ") = " + least, 1);
        value(e, "wrapping: - ONE is below 0", "- (" + least + ") < 0", 1);
        value(e, "no wrapping in <", least + " < 1", 1);
        value(e, "no wrapping in <", most + " < -1", 0);
        value(e, "no wrapping in <", "-1 < " + most, 1);
        value(e, "wrapping, ahead of the bound: most", most, 99);
        value(e, "wrapping, ahead of the bound: least", least, 0);
    }

    private static void bounds(Edges e) {
        int[][] reach = {{0, 0}, {1, 1}, {8, 8}, {9, 9}, {10, 9}, {99, 9}, {9999, 9}, {-1, 0}, {-9999, 0}};
        for (int[] r : reach) {
            e.answers("reach 0 .. 9, else the bound", NEW, "says(reach " + r[0] + " ; sees 1 ; worth 1 ;) -> 1", "force(1) -> 0",
                "asks(0, 0, 0, 0, 0) -> " + r[1]);
        }
        int[][] worth = {{0, 0}, {1, 1}, {9, 9}, {10, 10}, {98, 98}, {99, 99}, {100, 99}, {9999, 99}, {-1, 0}, {-9999, 0}};
        for (int[] w : worth) {
            value(e, "worth 0 .. 99, else the bound", "" + w[0], w[1]);
        }
        int[][] sees = {{0, 0}, {1, 1}, {2, 1}, {-1, 1}, {9999, 1}, {-9999, 1}};
        for (int[] s : sees) {
            e.answers("sees: not 0", NEW, "says(reach 1 ; sees " + s[0] + " ; worth 1 ;) -> 1", "force(1) -> 0", "asks(1, 0, 0, 0, 0) -> " + s[1]);
        }
        e.answers("sees: not 0, wrapped", NEW, "says(reach 1 ; sees 8192*8192*32 ; worth 1 ;) -> 1", "force(1) -> 0", "asks(1, 0, 0, 0, 0) -> 1");
        e.answers("sees: wrapped to 0", NEW, "says(reach 1 ; sees 8192*8192*64 ; worth 1 ;) -> 1", "force(1) -> 0", "asks(1, 0, 0, 0, 0) -> 0");
        e.answers("reach, wrapped", NEW, "says(reach 8192*8192*32-1;sees 1;worth 1;) -> 1", "force(1) -> 0", "asks(0, 0, 0, 0, 0) -> 9",
            "says(reach 8192*8192*32;sees 1;worth 1;) -> 2", "force(2) -> 1", "asks(0, 0, 0, 0, 0) -> 0");
    }

    private static void named(Edges e, String name, String... rows) {
        List<String> story = List.of("says(reach " + name + " ; sees " + name + " ; worth " + name + " ;)", "force(1)");
        e.answers("9: " + name, story, rows);
    }

    private static void asks(Edges e) {
        named(e, "far", "asks(2, 99, 0, 0, 0) -> 9", "asks(2, 9, 9, 23, 999) -> 0", "asks(2, 10, 9, 23, 999) -> 1", "asks(0, 90, 0, 0, 0) -> 9", "asks(1, 10, 0, 0, 0) -> 1");
        named(e, "lit", "asks(2, 99, 0, 0, 0) -> 9", "asks(2, 90, 9, 23, 999) -> 0", "asks(2, 1, 9, 23, 999) -> 1", "asks(0, 9, 0, 0, 0) -> 9", "asks(1, 90, 9, 23, 999) -> 0");
        named(e, "more", "asks(2, 0, 9, 0, 0) -> 9", "asks(2, 99, 0, 23, 999) -> 0", "asks(0, 0, 9, 0, 0) -> 9", "asks(1, 99, 0, 23, 999) -> 0");
        named(e, "second", "asks(2, 0, 0, 23, 0) -> 23", "asks(2, 99, 9, 0, 999) -> 0", "asks(0, 0, 0, 23, 0) -> 9", "asks(1, 0, 0, 1, 0) -> 1");
        named(e, "number", "asks(2, 0, 0, 0, 999) -> 9", "asks(2, 99, 9, 23, 99) -> 0", "asks(2, 99, 9, 23, 100) -> 1", "asks(0, 0, 0, 0, 900) -> 9");
        named(e, "cell", "asks(2, 0, 0, 0, 999) -> 99", "asks(2, 99, 9, 23, 900) -> 0", "asks(2, 0, 0, 0, 136) -> 36", "asks(1, 0, 0, 0, 901) -> 1");
        for (String end : new String[] {"0, 0, 0, 0", "99, 9, 23, 999"}) {
            e.refused("9: BAD: part", RICH, "asks(-1, " + end + ") -> BAD", "asks(3, " + end + ") -> BAD", "asks(MIN, " + end + ") -> BAD",
                "asks(MAX, " + end + ") -> BAD");
        }
        for (int part = 0; part < 3; part++) {
            String asks = "asks(" + part + ", ";
            e.refused("9: BAD: farLit", RICH, asks + "-1, 0, 0, 0) -> BAD", asks + "100, 0, 0, 0) -> BAD", asks + "MIN, 0, 0, 0) -> BAD", asks + "MAX, 0, 0, 0) -> BAD");
            e.refused("9: BAD: more", RICH, asks + "0, -1, 0, 0) -> BAD", asks + "0, 10, 0, 0) -> BAD", asks + "0, MIN, 0, 0) -> BAD", asks + "0, MAX, 0, 0) -> BAD");
            e.refused("9: BAD: second", RICH, asks + "0, 0, -1, 0) -> BAD", asks + "0, 0, 24, 0) -> BAD", asks + "0, 0, MIN, 0) -> BAD", asks + "0, 0, MAX, 0) -> BAD");
            e.refused("9: BAD: numberCell", RICH, asks + "0, 0, 0, -1) -> BAD", asks + "0, 0, 0, 1000) -> BAD", asks + "0, 0, 0, MIN) -> BAD", asks + "0, 0, 0, MAX) -> BAD");
        }
        e.refused("9: BAD: all of them", RICH, "asks(3, 100, 10, 24, 1000) -> BAD", "asks(-1, -1, -1, -1, -1) -> BAD");
        e.changesNothing("9: what is asked changes nothing", RICH, "asks(2, 99, 9, 23, 999) -> 99", "asks(0, 1, 9, 23, 999) -> 4");
    }
}
