import java.util.Random;

/** Promises 28 to 31 and 33 to 36: RULES read, what they'd have done, whom they pay. */
public final class RulesTest {
    private static final Check CHECK = new Check("RulesTest");
    private static final String TEN_OPEN = "stay if not(not(not(not(not(year=0)))));";

    public static void main(String[] args) {
        testGood();
        testFaults();
        testOpen();
        testStatements();
        testWords();
        testLimits();
        testTape();
        testBeside();
        testFaultKept();
        testWouldMoves();
        testWouldOnGrid();
        testWouldAfoot();
        testWouldAsks();
        testWouldLogic();
        testWouldEats();
        testWouldWrong();
        testSaved();
        testByDay();
        testTried();
        testQuarrel();
        testPaid();
        testPaidFirst();
        testPaidAsks();
        testDeepAndLong();
        CHECK.end();
    }

    private static void due(String call, long got, long want) {
        CHECK.due(call, got, want);
    }

    private static void good(String text) {
        IceSearch x = new IceSearch();
        due("RULES " + text, Texts.rules(x, text), 0);
        due("no FAULT in " + text, x.fault(), -1);
    }

    private static void bad(String text, int place) {
        IceSearch x = new IceSearch();
        due("spoilt " + text, Texts.rules(x, text), -1);
        due("FAULT in " + text, x.fault(), place);
        due("none are taken: " + text, x.count(6), 0);
    }

    private static void testGood() {
        good("");
        good("  \n ");
        good("stay;");
        good("\nstay\n;\n");
        good("leave;stay;go north;go east;go south;go west;walk north;walk east;walk south;walk west;");
        good("pay 0 for paper;pay 00001 for grave;pay 99999 for told;pay 5for bought;pay 6 for nothing;");
        good("stay if year<1;");
        good("stay if step>1 and food=2 and men<3;");
        good("stay if north=1 or east=1 or south=1 or west=1;");
        good("stay if afoot=1 and reach=1 or trust=1 and first=1;");
        good("stay if(year=1or step=2)and not not(men<3and(food>4));");
        good("go\neast if year = 00000 ;");
    }

    private static void testFaults() {
        bad("x", 0);
        bad("stays;", 0);
        bad(" if", 1);
        bad(";", 0);
        bad("stay", 4);
        bad("stay  ", 6);
        bad("stay stay;", 5);
        bad("stay;;", 5);
        bad("stay; go up;", 9);
        bad("go", 2);
        bad("go ;", 3);
        bad("gonorth;", 0);
        bad("go nort", 3);
        bad("go paper;", 3);
        bad("walk year;", 5);
        bad("go north east;", 9);
        bad("pay for told;", 4);
        bad("pay 1", 5);
        bad("pay 123456 for told;", 4);
        bad("pay 000001 for told;", 4);
        bad("pay 1 told;", 6);
        bad("pay 1 for", 9);
        bad("pay 1 for north;", 10);
        bad("pay 1 for told 2;", 15);
        bad("pay -1 for told;", 4);
        bad("stay if", 7);
        bad("stay if;", 7);
        bad("stay if paper=1;", 8);
        bad("stay if if", 8);
        bad("stay if year", 12);
        bad("stay if year;", 12);
        bad("stay if year<", 13);
        bad("stay if year<=1;", 13);
        bad("stay if year<>1;", 13);
        bad("stay if year<x;", 13);
        bad("stay if year<123456;", 13);
        bad("stay if year<1", 14);
        bad("stay if year<1 year<2;", 15);
        bad("stay if year<1 and;", 18);
        bad("stay if year<1 and and;", 19);
        bad("stay if year<1 or", 17);
        bad("stay if year<1 or ;", 18);
        bad("stay if year<1 not;", 15);
        bad("stay if year<1);", 14);
        bad("stay if (year<1;", 15);
        bad("stay if (year<1));", 16);
        bad("stay if ();", 9);
        bad("stay if (year<1)(", 16);
        bad("stay if not;", 11);
        bad("stay if not", 11);
        bad("stay if 1=year;", 8);
        bad("stay if (year<1<;", 15);
        bad("stay if (year<1=;", 15);
        bad("stay if year(1;", 12);
        bad("stay if <1;", 8);
        bad("stayz;", 0);
        bad("stay if menz=1;", 8);
        bad("stay if amen=1;", 8);
        bad("stay if nen=1;", 8);
        bad("xtay;", 0);
        bad("gp north;", 0);
        bad("pay 1 fox told;", 6);
    }

    private static void testOpen() {
        good(TEN_OPEN);
        good("stay if " + "(".repeat(10) + "year=0" + ")".repeat(10) + ";");
        good("stay if " + "not ".repeat(10) + "year=0;");
        good("stay if " + "not ".repeat(10) + "year=0 and " + "not ".repeat(10) + "men>0;");
        good("stay if not(year=0 and " + "(".repeat(8) + "men>0" + ")".repeat(9) + ";");
        good("stay if " + "(year=0) and ".repeat(30) + "(year=0);");
        bad("stay if " + "(".repeat(11), 18);
        bad("stay if " + "not ".repeat(11) + "year=0;", 48);
        bad("stay if " + "not(".repeat(5) + "not year=0", 28);
        bad("stay if " + "not(".repeat(5) + "(year=0", 28);
        bad("stay if not " + "(".repeat(9) + "year=0 and not", 32);
        bad("stay if " + "(".repeat(10) + "x", 18);
        bad("stay if " + "(".repeat(10), 18);
        bad("stay if not(year=0 and " + "(".repeat(9) + "men>0" + ")".repeat(10) + ";", 31);
    }

    private static void testStatements() {
        good("stay;".repeat(30));
        good("stay;".repeat(30) + "  ");
        bad("stay;".repeat(31), 150);
        bad("stay;".repeat(30) + " \n stay;", 153);
        bad("stay;".repeat(30) + "x", 150);
        bad("stay;".repeat(29) + "stay", 149);
        IceSearch x = new IceSearch();
        Texts.rules(x, "stay;".repeat(30));
        due("statements", x.count(7), 30);
    }

    private static void testWords() {
        bad("Stay;", 0);
        bad("stay\t;", 4);
        bad("stay\r\n;", 4);
        bad("stay\u00a0;", 4);
        bad("stay \u00ff;", 5);
        bad("st\u00e9y;", 0);
        bad("stay;\u0000", 5);
        bad("stay#;", 4);
        bad("stay if year==1;", 13);
        String signs = " \n;()<>=0123456789abcdefghijklmnopqrstuvwxyz";
        for (int b = 0; b < 256; b++) {
            String text = "stay;" + (char) b;
            if (b == ' ' || b == '\n') {
                good(text);
            } else {
                bad(text, 5);
            }
            if (signs.indexOf(b) < 0) {
                bad("stay" + (char) b + ";", 4);
            }
        }
        for (String word : new String[] {"yea", "years", "stepp", "mens", "afoo", "firs", "trus", "reac", "nort"}) {
            bad("stay if " + word + "=1;", 8);
        }
    }

    private static void testLimits() {
        IceSearch x = new IceSearch();
        for (int i = 0; i < 8; i++) {
            due("RULES " + i, Texts.rules(x, "stay;".repeat(i)), i);
        }
        x.feed(0, 0, 0, 0, 0);
        due("n below 0", x.rules(-1), -2);
        due("n above", x.rules(21), -2);
        due("there are 8", x.rules(20), -3);
        due("there are 8, n 0", x.rules(0), -3);
        due("the tape stays", x.count(13), 20);
        due("there are 8 still", x.count(6), 8);
        due("RULES BESIDE are no such", x.beside(0), 0);
    }

    private static void testTape() {
        IceSearch x = new IceSearch();
        Texts.feed(x, "stay;go;");
        due("n -1", x.rules(-1), -2);
        due("n 21", x.rules(21), -2);
        due("n MIN", x.rules(Integer.MIN_VALUE), -2);
        due("n MAX", x.rules(Integer.MAX_VALUE), -2);
        due("nothing was done", x.count(13), 20);
        due("the first five", x.rules(5), 0);
        due("all is gone", x.count(13), 0);
        Texts.feed(x, "stay;go;");
        due("a FAULT", x.rules(20), -1);
        due("at ;", x.fault(), 7);
        due("all is gone with a FAULT, too", x.count(13), 0);
        Texts.feed(x, "go north;");
        due("the first four", x.rules(4), -1);
        due("a word ends with the text", x.fault(), 3);
        Texts.feed(x, "pay 12 for told;");
        due("the first three", x.rules(3), -1);
        due("more must come", x.fault(), 3);
        due("nothing", x.rules(0), 1);
        due("nothing is without statements", x.count(7), 0);
        due("no FAULT", x.fault(), -1);
    }

    private static void testBeside() {
        IceSearch x = new IceSearch();
        due("n 1 of none", x.beside(1), -2);
        due("n -1", x.beside(-1), -2);
        due("none beside", x.count(14), 0);
        due("beside", Texts.beside(x, "stay;"), 0);
        due("one is beside", x.count(14), 1);
        due("they are no RULES told", x.count(6), 0);
        due("bad n leaves it", x.beside(1), -2);
        due("still beside", x.count(14), 1);
        due("another", Texts.beside(x, "leave;"), 0);
        x.set(1, 50);
        x.lost(0, 9, 99, -1);
        due("in place of what was", x.tried(0, 3), 1);
        due("a FAULT", Texts.beside(x, "leave;go;"), -1);
        due("its place", x.fault(), 8);
        due("none beside then", x.count(14), 0);
        due("none tried", x.tried(0, 3), -2);
        due("the tape is empty", x.count(13), 0);
        due("without statements", x.beside(0), 0);
        due("they stay", x.tried(0, 3), 0);
        for (int i = 1; i < 20; i++) {
            String text = "stay if men=" + i + " and(year=0 or not food=1)" + " or men=0".repeat(30) + ";leave;";
            due("beside, the time " + i, Texts.beside(x, text), 0);
            due("tried, the time " + i, x.tried(0, 3), i == 9 ? 0 : 1);
        }
    }

    private static void testFaultKept() {
        IceSearch x = new IceSearch();
        Texts.rules(x, "stay;x");
        due("the place", x.fault(), 5);
        x.rules(1);
        due("-2 leaves it", x.fault(), 5);
        x.beside(-1);
        due("-2 of beside leaves it", x.fault(), 5);
        Texts.beside(x, "stay;");
        due("beside had none", x.fault(), -1);
        Texts.beside(x, "go");
        due("beside had one", x.fault(), 2);
        Texts.rules(x, "stay;");
        due("rules had none", x.fault(), -1);
        for (int i = 1; i < 8; i++) {
            x.rules(0);
        }
        Texts.beside(x, "go x");
        due("there are 8", x.rules(0), -3);
        due("-3 leaves it", x.fault(), 3);
    }

    private static IceSearch lostAt34(int last, String text) {
        IceSearch x = new IceSearch();
        x.lost(34, 20, 5000, -1);
        x.set(last, 50);
        due("RULES " + text, Texts.rules(x, text), 0);
        return x;
    }

    private static void testWouldMoves() {
        String[] words = {"north", "east", "south", "west"};
        int[] cells = {18, 35, 50, 33};
        for (int d = 0; d < 4; d++) {
            due("go " + words[d], lostAt34(1, "go " + words[d] + ";").would(0, 0), cells[d]);
            due("walk " + words[d], lostAt34(2, "leave if afoot=0;walk " + words[d] + ";").would(0, 0), cells[d]);
            due("asks " + words[d], lostAt34(1, "leave if " + words[d] + "=1;").would(0, 3), 1);
            IceSearch x = lostAt34(2, "leave if " + words[d] + "=0;go " + words[d] + ";");
            x.land(cells[d], true);
            due("land to " + words[d], x.would(0, 3), 1);
            due("not to land in " + words[d], lostAt34(1, "stay;").would(0, 0), 34);
        }
        IceSearch x = lostAt34(4, "go east;");
        x.ice(36, 0, true);
        due("up to SHUT sea", x.would(0, 0), 35);
        due("on STEP 0", x.would(0, 100), 34);
        due("on STEP 1", x.would(0, 101), 35);
        due("on STEP 4", x.would(0, 104), 35);
        x.ice(36, 0, false);
        x.land(37, true);
        due("up to land", x.would(0, 0), 36);
        x = lostAt34(12, "go east if step=9;go south if step=10;stay if step=11;go west;");
        x.ice(34 + 16, 1, true);
        x.lost(34, 20, 5000, 0);
        due("STEP 8", x.would(0, 108), 32);
        due("STEP 9", x.would(0, 109), 33);
        due("STEP 10", x.would(0, 110), 49);
        due("STEP 11", x.would(0, 111), 49);
        due("STEP 12", x.would(0, 112), 48);
        x.ice(49, 1, true);
        due("STEP 10, SHUT in its YEAR", x.would(0, 110), 33);
        due("without RULES they stay", new IceSearch().would(0, 0), 0);
    }

    private static void testWouldOnGrid() {
        int[] corners = {0, 15, 255, 240};
        String[] words = {"north", "east", "south", "west"};
        for (int d = 0; d < 4; d++) {
            IceSearch x = lostAt34(3, "go " + words[d] + ";");
            x.lost(corners[d], 9, 99, 0);
            due("no CELL to " + words[d], x.would(0, 0), corners[d]);
            x = lostAt34(3, "leave if afoot=0 and " + words[d] + "=0;walk " + words[d] + ";");
            x.lost(corners[d], 9, 99, -1);
            due("on foot no CELL to " + words[d], x.would(0, 0), corners[d]);
            due("asked, no CELL to " + words[d], x.would(0, 3), 1);
        }
    }

    private static void testWouldAfoot() {
        IceSearch x = lostAt34(3, "walk east;");
        due("not AFOOT they don't walk", x.would(0, 0), 34);
        due("nor are they AFOOT", x.would(0, 3), 0);
        x = lostAt34(4, "leave if step=1;walk east;");
        x.land(35, true);
        x.ice(36, 0, true);
        due("over land and SHUT sea", x.would(0, 0), 37);
        due("leaving takes a STEP", x.would(0, 101), 34);
        due("AFOOT", x.would(0, 3), 1);
        x = lostAt34(3, "leave if step=1;go east;");
        due("AFOOT they don't go", x.would(0, 0), 34);
        x = lostAt34(3, "go east;leave;");
        x.land(35, true);
        due("the first that holds is done, though they stay", x.would(0, 3), 0);
        x = lostAt34(5, "leave if step=2;walk east if step<4 and afoot=1;stay if afoot=1;go south;");
        due("go, leave, walk, stay", x.would(0, 0), 51);
    }

    private static void testWouldAsks() {
        due("year 1", lostAt34(10, "leave if year=1;").would(0, 3), 1);
        due("year 0", lostAt34(9, "leave if year=1;").would(0, 3), 0);
        due("year 11", lostAt34(119, "leave if year>10;").would(0, 3), 1);
        due("step 3", lostAt34(3, "leave if step=3;").would(0, 3), 1);
        due("step 0 isn't asked", lostAt34(3, "leave if step=0;").would(0, 3), 0);
        due("food behind eating", lostAt34(1, "leave if food=4980;").would(0, 3), 1);
        due("food before", lostAt34(1, "leave if food=5000;").would(0, 3), 0);
        due("men", lostAt34(1, "leave if men=20;").would(0, 3), 1);
        due("men, more", lostAt34(1, "leave if men>20;").would(0, 3), 0);
        due("men, less", lostAt34(1, "leave if men<21;").would(0, 3), 1);
        due("afoot 0", lostAt34(1, "leave if afoot=0;").would(0, 3), 1);
        due("reach, trust, first 0", lostAt34(1, "leave if reach=0 and trust=0 and first=0;").would(0, 3), 1);
        IceSearch x = lostAt34(1, "leave if men=17;");
        x.lost(34, 20, 0, -1);
        due("men behind eating", x.would(0, 3), 1);
        x = lostAt34(10, "leave if north=0 and step=10;");
        x.ice(18, 1, true);
        due("north in its YEAR", x.would(0, 3), 1);
        x = lostAt34(9, "leave if north=0;");
        x.ice(18, 1, true);
        due("north in the YEAR before", x.would(0, 3), 0);
    }

    private static void testWouldLogic() {
        String[] holding = {"men=20 or men=1 and men=2", "(men=20 or men=1) and men>19", "not men=1", "not not men=20",
            "not (men=20 and men=1)", "not men=1 and men=20", "not men=20 or men=20", "men=1 and men=2 or men=20",
            "men=1 or men=2 or men=20", "men=20 or year<0", "year<0 or men=20", "men=20 and (men=20 and men>1)",
            "men=20 and (men=1 or (men=20 and men>1))", "men=1 or men=20 and (men=20 and (men=1 or men=20))",
            "men=20 and men>1 and men<99999", "not(men=20)or not(men=21)"};
        String[] failing = {"year<0", "men=20 and (men=20 and men=1)", "men=1 or (men=1 or (men=20 and men=1))",
            "(men=20 or men=1) and men=2", "not men=20", "not (men=20 or men=1)",
            "not men=1 and men=1", "not men=20 and men=1 or men=2", "men=20 and men=1 or men=20 and men=2",
            "not not men=1", "not (not men=20 or men=20)", "men=20 and not(men>1 or men=5)"};
        for (String text : holding) {
            due(text, lostAt34(1, "leave if " + text + ";").would(0, 3), 1);
        }
        for (String text : failing) {
            due(text, lostAt34(1, "leave if " + text + ";").would(0, 3), 0);
        }
    }

    private static void testWouldEats() {
        IceSearch x = lostAt34(6, "go east;");
        x.lost(34, 3, 7, -1);
        due("the last one dies on STEP 5", x.would(0, 0), 38);
        due("MEN", x.would(0, 1), 0);
        due("FOOD", x.would(0, 2), 0);
        x.set(2, 50);
        due("MEN on 2", x.would(0, 1), 3);
        due("FOOD on 2", x.would(0, 2), 1);
        x.set(3, 50);
        due("MEN on 3", x.would(0, 1), 2);
        due("FOOD on 3", x.would(0, 2), 0);
        x = lostAt34(2, "leave;");
        x.lost(34, 1, 0, -1);
        due("none alive, none leaves", x.would(0, 3), 0);
    }

    private static void testWouldWrong() {
        IceSearch x = lostAt34(3, "go east;");
        due("DAY -1", x.would(-1, 0), -2);
        due("DAY 1000", x.would(1000, 0), -2);
        due("DAY 999", x.would(999, 0), 37);
        due("what -1", x.would(0, -1), -2);
        due("what 5", x.would(0, 5), -2);
        due("what 99", x.would(0, 99), -2);
        due("what 103", x.would(0, 103), 37);
        due("what 104", x.would(0, 104), -2);
        due("what MAX", x.would(0, Integer.MAX_VALUE), -2);
        due("what MIN", x.would(0, Integer.MIN_VALUE), -2);
    }

    private static void testSaved() {
        IceSearch x = lostAt34(6, "go east;");
        due("no HOME CELL", x.would(0, 4), -1);
        x.home(37, true);
        due("on STEP 3", x.would(0, 4), 3);
        x.set(3, 50);
        due("LAST is STEP 3", x.would(0, 4), 3);
        x.set(2, 50);
        due("LAST is before", x.would(0, 4), -1);
        x.set(6, 50);
        x.home(36, true);
        due("the first", x.would(0, 4), 2);
        x.home(34, true);
        due("on STEP 0", x.would(0, 4), 0);
        x.home(34, false);
        x.home(36, false);
        x.lost(34, 1, 2, -1);
        due("dead before", x.would(0, 4), -1);
        x.lost(34, 1, 3, -1);
        due("alive", x.would(0, 4), 3);
        x.lost(34, 2, 4, -1);
        due("one alive", x.would(0, 4), 3);
        x.home(37, false);
        x.home(35, true);
        x.lost(34, 1, 0, -1);
        due("none alive comes nowhere", x.would(0, 4), -1);
        x.home(34, true);
        due("with MEN on STEP 0", x.would(0, 4), 0);
    }

    private static void testByDay() {
        IceSearch x = new IceSearch();
        x.lost(34, 20, 5000, -1);
        x.set(3, 50);
        x.day(10);
        Texts.rules(x, "go east;");
        x.day(20);
        Texts.rules(x, "go west;");
        Texts.rules(x, "go south;");
        x.ice(36, 0, true);
        due("none KNOWN", x.would(9, 0), 34);
        due("the first", x.would(10, 0), 37);
        due("the first, on DAY 19", x.would(19, 0), 37);
        due("the last of DAY 20", x.would(20, 0), 82);
        due("later", x.would(999, 0), 82);
        x.day(21);
        Texts.rules(x, "go east;");
        due("ice as KNOWN", x.would(21, 0), 35);
        due("a FAULT changes nothing", Texts.rules(x, "go"), -1);
        due("as before", x.would(21, 0), 35);
    }

    private static void testTried() {
        IceSearch x = lostAt34(3, "go west;");
        due("none beside", x.tried(0, 0), -2);
        Texts.beside(x, "go east if step>1;leave if step=1;walk south;");
        due("leaving first", x.tried(0, 0), 34);
        due("MEN", x.tried(0, 1), 20);
        due("FOOD", x.tried(0, 2), 4940);
        due("AFOOT", x.tried(0, 3), 1);
        due("SAVED", x.tried(0, 4), -1);
        due("what 5", x.tried(0, 5), -2);
        due("what -1", x.tried(0, -1), -2);
        due("what 100", x.tried(0, 100), -2);
        due("DAY -1", x.tried(-1, 0), -2);
        due("DAY 1000", x.tried(1000, 0), -2);
        due("those in force hold", x.would(0, 0), 32);
        x.home(34, true);
        due("SAVED on STEP 0", x.tried(0, 4), 0);
        x.day(10);
        Texts.beside(x, "go east;");
        x.ice(36, 0, true);
        due("ice as KNOWN before", x.tried(9, 0), 37);
        due("ice as KNOWN", x.tried(10, 0), 35);
    }

    private static void testQuarrel() {
        IceSearch x = new IceSearch();
        due("no RULES", x.quarrel(0, 0), -1);
        x.day(5);
        Texts.rules(x, "pay 1 for told;stay;pay 2 for paper if year=0;pay 1 for paper;pay 5 for grave;"
            + "pay 3 for told if men=1;pay 9 for paper;go east;pay 9 for told;pay 9 for told;");
        due("none KNOWN", x.quarrel(4, 0), -1);
        due("the least first", x.quarrel(5, 0), 0);
        due("its least second", x.quarrel(5, 1), 8);
        due("what 2", x.quarrel(5, 2), -1);
        due("what -1", x.quarrel(5, -1), -1);
        due("DAY -1", x.quarrel(-1, 0), -1);
        due("DAY 1000", x.quarrel(1000, 0), -1);
        x.day(6);
        Texts.rules(x, "pay 1 for told if year=0;stay;pay 1 for paper;pay 1 for told;pay 1 for paper;stay;stay;");
        due("paper", x.quarrel(6, 0), 2);
        due("paper again", x.quarrel(6, 1), 4);
        due("by DAY 5", x.quarrel(5, 1), 8);
        Texts.rules(x, "stay;stay;pay 1 for told if year=0;pay 1 for told;pay 1 for told if year=1;pay 1 for paper;");
        due("no quarrel", x.quarrel(6, 0), -1);
        due("no second", x.quarrel(6, 1), -1);
        String[] kinds = {"paper", "grave", "told", "bought", "nothing"};
        for (String kind : kinds) {
            IceSearch y = new IceSearch();
            Texts.rules(y, "pay 1 for " + kind + ";pay 2 for " + kind + ";");
            due("quarrel for " + kind, y.quarrel(0, 1), 1);
        }
    }

    private static void testPaid() {
        IceSearch x = new IceSearch();
        x.find(0, 1, 0, 0, 0, -1, 3);
        x.find(1, 2, 0, 0, 0, -1, 3);
        x.find(2, 3, 0, 0, 0, -1, 3);
        x.find(3, 4, 0, 0, 0, -1, 3);
        x.find(4, 5, 0, 0, 1, -1, 3);
        x.find(0, 6, 0, 0, 0, -1, 4);
        due("no RULES", x.paid(3, 0), 0);
        Texts.rules(x, "pay 1 for paper;stay;pay 20 for grave;pay 300 for told;pay 4000 for bought;"
            + "pay 50000 for nothing;pay 7 for paper;");
        due("all KINDS", x.paid(3, 0), 54321);
        due("another FINDER", x.paid(4, 0), 1);
        due("one without finds", x.paid(9, 0), 0);
        due("FINDER -1", x.paid(-1, 0), -2);
        due("FINDER 10", x.paid(10, 0), -2);
        due("DAY -1", x.paid(3, -1), -2);
        due("DAY 1000", x.paid(3, 1000), -2);
        x.doubt(2, true);
        due("not for the doubted", x.paid(3, 0), 54021);
        x.day(7);
        x.doubt(2, false);
        x.find(1, 9, 0, 0, 0, -1, 3);
        due("as KNOWN before", x.paid(3, 6), 54021);
        due("as KNOWN now", x.paid(3, 7), 54341);
        Texts.rules(x, "pay 99999 for nothing;pay 0 for grave;pay 5 for grave;");
        due("by new RULES", x.paid(3, 7), 99999);
        due("by old ones", x.paid(3, 6), 54021);
    }

    private static void testPaidFirst() {
        IceSearch x = new IceSearch();
        Texts.rules(x, "pay 100 for grave if first=1;pay 1 for grave;");
        x.find(1, 7, 0, 0, 0, -1, 0);
        x.find(1, 7, 0, 0, 0, -1, 1);
        x.find(1, 8, 0, 0, 0, -1, 2);
        x.find(1, 7, 0, 0, 0, -1, 3);
        due("the first", x.paid(0, 0), 100);
        due("not the first", x.paid(1, 0), 1);
        due("first at another CELL", x.paid(2, 0), 100);
        x.doubt(0, true);
        due("a doubted one was first, too", x.paid(1, 0), 1);
        due("nothing for it", x.paid(0, 0), 0);
        due("the third", x.paid(3, 0), 1);
    }

    private static void testPaidAsks() {
        IceSearch x = new IceSearch();
        x.teller(70, -1);
        x.find(2, 99, 25, 39, 3, 0, 0);
        String[] holding = {"year=2", "step=25", "reach=3", "trust=70", "first=1", "food=0 and men=0 and afoot=0",
            "north=0 and east=0 and south=0 and west=0"};
        String[] failing = {"year=3", "step=39", "reach=2", "trust=100", "first=0", "men>0", "north=1"};
        for (int i = 0; i < 7; i++) {
            IceSearch y = new IceSearch();
            y.teller(70, -1);
            y.find(2, 99, 25, 39, 3, 0, 0);
            Texts.rules(y, "pay 5 for told if " + failing[i] + ";pay 7 for told if " + holding[i] + ";");
            due(failing[i] + ", " + holding[i], y.paid(0, 0), 7);
        }
        Texts.rules(x, "pay 5 for told if year=9;");
        due("none holds", x.paid(0, 0), 0);
    }

    private static void testDeepAndLong() {
        Random random = new Random(77);
        for (int i = 0; i < 3000; i++) {
            String text = new Texts(random).next();
            IceSearch x = new IceSearch();
            ModelRules rules = new ModelRules(text);
            due("RULES " + text, Texts.rules(x, text), rules.fault == -1 ? 0 : -1);
            due("FAULT of " + text, x.fault(), rules.fault);
        }
        good("stay if year=0 or(year=1 and(step=2 or not(men=3 and(food=4 or(year=1 and(step=2 or(men=3 "
            + "and food=4)))))));");
        StringBuilder chain = new StringBuilder("leave if men=1");
        while (chain.length() < 680) {
            chain.append(" or men=1 and men=20");
        }
        due("a long chain fails", lostAt34(1, chain + ";").would(0, 3), 0);
        due("a long chain holds", lostAt34(1, chain.substring(0, 674) + " or men=20;").would(0, 3), 1);
    }
}
