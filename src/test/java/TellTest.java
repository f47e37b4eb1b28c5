/** Promises 1 to 11, 18, 19, 25, 28, 32 and 37: what is told, its limits, and how much of it there is. */
public final class TellTest {
    private static final Check CHECK = new Check("TellTest");
    private static final int MIN = Integer.MIN_VALUE;
    private static final int MAX = Integer.MAX_VALUE;

    public static void main(String[] args) {
        testNew();
        testDay();
        testLand();
        testLost();
        testSet();
        testIce();
        testShut();
        testTeller();
        testFind();
        testFindLimits();
        testTrust();
        testDoubt();
        testDoubtLimit();
        testFound();
        testRow();
        testShip();
        testFeed();
        testHome();
        testCount();
        CHECK.end();
    }

    private static void due(String call, long got, long want) {
        CHECK.due(call, got, want);
    }

    private static void due(String call, boolean got, boolean want) {
        CHECK.due(call, got, want);
    }

    private static void testNew() {
        IceSearch x = new IceSearch();
        int[] want = {0, 0, 0, 0, 0, 0, 0, 0, 0, 0, 0, 0, 50, 0, 0};
        for (int what = 0; what < want.length; what++) {
            due("new: count(" + what + ")", x.count(what), want[what]);
        }
        due("new: at(0, 0, 0)", x.at(0, 0, 0), 1);
        due("new: at(0, 1, 0)", x.at(0, 1, 0), 0);
        due("new: alive(0)", x.alive(0), 1);
        due("new: alive(1)", x.alive(1), 0);
        due("new: would(0, 2)", x.would(0, 2), 0);
        due("new: fault()", x.fault(), -1);
        due("new: best(0)", x.best(0), -1);
        due("new: found(0, 0)", x.found(0, 0), -2);
        due("new: tried(0, 0)", x.tried(0, 0), -2);
        due("new: most(0, 0)", x.most(0, 0), 0);
        due("new: set", x.set(119, 50), true);
        due("new: staying", x.at(0, 0, 119), 1);
        for (int cell = 1; cell < 256; cell++) {
            due("new: all sea, at " + cell, x.at(0, cell, 15 + cell % 9), 1);
        }
        x.land(1, true);
        due("new: they never walk", x.at(0, 1, 119), 0);
    }

    private static void testDay() {
        IceSearch x = new IceSearch();
        due("day(0)", x.day(0), false);
        due("day(-1)", x.day(-1), false);
        due("day(1000)", x.day(1000), false);
        due("day(MAX)", x.day(MAX), false);
        due("day(5)", x.day(5), true);
        due("day(5) again", x.day(5), false);
        due("day(4)", x.day(4), false);
        due("TODAY", x.count(0), 5);
        due("day(999)", x.day(999), true);
        due("day(1000) behind it", x.day(1000), false);
        due("TODAY at the end", x.count(0), 999);
    }

    private static void testLand() {
        IceSearch x = new IceSearch();
        due("land(-1)", x.land(-1, true), false);
        due("land(256)", x.land(256, true), false);
        due("land(MIN)", x.land(MIN, true), false);
        due("land(0) where they are", x.land(0, true), false);
        due("sea(0) where they are", x.land(0, false), false);
        due("land(255)", x.land(255, true), true);
        due("land(255) again", x.land(255, true), true);
        due("land(1)", x.land(1, true), true);
        due("land", x.count(8), 2);
        x.set(1, 50);
        due("at land", x.at(0, 1, 1), 0);
        due("sea(1)", x.land(1, false), true);
        due("sea(1) again", x.land(1, false), true);
        due("at sea", x.at(0, 1, 1), 1);
        due("land left", x.count(8), 1);
        x.day(7);
        x.land(1, true);
        due("land holds by every day", x.at(0, 1, 1), 0);
    }

    private static void testLost() {
        IceSearch x = new IceSearch();
        x.land(9, true);
        due("lost(-1, ..)", x.lost(-1, 1, 0, -1), false);
        due("lost(256, ..)", x.lost(256, 1, 0, -1), false);
        due("lost at land", x.lost(9, 1, 0, -1), false);
        due("no men", x.lost(8, 0, 0, -1), false);
        due("too many men", x.lost(8, 201, 0, -1), false);
        due("food below 0", x.lost(8, 1, -1, -1), false);
        due("too much food", x.lost(8, 1, 100000, -1), false);
        due("ashore -2", x.lost(8, 1, 0, -2), false);
        due("ashore 120", x.lost(8, 1, 0, 120), false);
        due("nothing was done: CELL", x.at(0, 0, 0), 1);
        due("nothing was done: MEN", x.alive(0), 1);
        due("the greatest", x.lost(255, 200, 99999, 119), true);
        due("MEN", x.alive(0), 200);
        due("FOOD", x.would(0, 2), 99999);
        due("CELL", x.at(0, 255, 0), 1);
        due("the least", x.lost(0, 1, 0, -1), true);
        due("old CELL may be land", x.land(255, true), true);
        due("new one may not", x.land(0, true), false);
        due("ashore 0", x.lost(8, 1, 0, 0), true);
        x.set(1, 50);
        due("walking on STEP 1", x.at(0, 9, 1), 1);
        x.lost(8, 1, 0, 1);
        due("walking from ASHORE on", x.at(0, 9, 1), 1);
        x.lost(8, 1, 0, 2);
        due("not before ASHORE", x.at(0, 9, 1), 0);
    }

    private static void testSet() {
        IceSearch x = new IceSearch();
        due("set(-1, 50)", x.set(-1, 50), false);
        due("set(120, 50)", x.set(120, 50), false);
        due("set(5, -1)", x.set(5, -1), false);
        due("set(5, 101)", x.set(5, 101), false);
        due("LAST stays", x.count(11), 0);
        due("HOLD stays", x.count(12), 50);
        due("set(119, 100)", x.set(119, 100), true);
        due("LAST", x.count(11), 119);
        due("HOLD", x.count(12), 100);
        due("set(0, 0)", x.set(0, 0), true);
        due("LAST 0", x.count(11), 0);
        due("HOLD 0", x.count(12), 0);
    }

    private static void testIce() {
        IceSearch x = new IceSearch();
        due("ice(-1, ..)", x.ice(-1, 0, true), -1);
        due("ice(256, ..)", x.ice(256, 0, true), -1);
        due("ice in year -1", x.ice(0, -1, true), -1);
        due("ice in year 12", x.ice(0, 12, true), -1);
        due("nothing was told", x.count(3), 0);
        for (int i = 1; i <= 200; i++) {
            due("ice " + i, x.ice(i % 3, 11, i % 2 == 0), i);
        }
        due("ice 201", x.ice(0, 0, true), -1);
        due("ice told", x.count(3), 200);
        due("the 201st did nothing", x.shut(0, 0, 999), 0);
        due("the 198th holds", x.shut(0, 11, 0), 1);
        due("the 199th holds", x.shut(1, 11, 0), 0);
    }

    private static void testShut() {
        IceSearch x = new IceSearch();
        due("shut(-1, 0, 0)", x.shut(-1, 0, 0), -1);
        due("shut(256, 0, 0)", x.shut(256, 0, 0), -1);
        due("shut(0, -1, 0)", x.shut(0, -1, 0), -1);
        due("shut(0, 12, 0)", x.shut(0, 12, 0), -1);
        due("shut(0, 0, -1)", x.shut(0, 0, -1), -1);
        due("shut(0, 0, 1000)", x.shut(0, 0, 1000), -1);
        due("open without ICE", x.shut(3, 4, 0), 0);
        x.ice(3, 4, true);
        due("shut", x.shut(3, 4, 0), 1);
        due("another YEAR", x.shut(3, 5, 0), 0);
        due("another CELL", x.shut(4, 4, 0), 0);
        x.day(10);
        x.ice(3, 4, false);
        x.ice(4, 4, true);
        due("by the DAY before", x.shut(3, 4, 9), 1);
        due("by the DAY itself", x.shut(3, 4, 10), 0);
        due("by a later DAY", x.shut(3, 4, 999), 0);
        due("not KNOWN yet", x.shut(4, 4, 9), 0);
        x.ice(3, 4, true);
        due("the last one told on a DAY holds", x.shut(3, 4, 10), 1);
        x.land(3, true);
        due("land may be SHUT", x.shut(3, 4, 10), 1);
    }

    private static void testTeller() {
        IceSearch x = new IceSearch();
        due("trust -1", x.teller(-1, -1), -1);
        due("trust 101", x.teller(101, -1), -1);
        due("by -2", x.teller(50, -2), -1);
        due("by themselves", x.teller(50, 0), -1);
        due("TELLERS", x.count(4), 0);
        due("the first", x.teller(0, -1), 0);
        due("by a later one", x.teller(50, 1), -1);
        for (int i = 1; i < 10; i++) {
            due("TELLER " + i, x.teller(100, i - 1), i);
        }
        due("the eleventh", x.teller(50, -1), -1);
        due("TELLERS at the end", x.count(4), 10);
    }

    private static void testFind() {
        IceSearch x = new IceSearch();
        x.teller(50, -1);
        int[] most = {0, 2, 5, 15, 100};
        int number = 0;
        for (int kind = 0; kind < 5; kind++) {
            int least = kind == 4 ? 1 : 0;
            due("n too small for " + kind, x.find(kind, 5, 1, 2, least - 1, -1, 0), -1);
            due("n too great for " + kind, x.find(kind, 5, 1, 2, most[kind] + 1, -1, 0), -1);
            due("least n for " + kind, x.find(kind, 5, 1, 2, least, -1, 0), number++);
            due("greatest n for " + kind, x.find(kind, 5, 1, 2, most[kind], -1, 0), number++);
        }
        due("kind -1", x.find(-1, 5, 1, 2, 0, -1, 0), -1);
        due("kind 5", x.find(5, 5, 1, 2, 1, -1, 0), -1);
        due("cell -1", x.find(0, -1, 1, 2, 0, -1, 0), -1);
        due("cell 256", x.find(0, 256, 1, 2, 0, -1, 0), -1);
        due("a -1", x.find(0, 5, -1, 2, 0, -1, 0), -1);
        due("b 120", x.find(0, 5, 1, 120, 0, -1, 0), -1);
        due("a above b", x.find(0, 5, 3, 2, 0, -1, 0), -1);
        due("teller -2", x.find(0, 5, 1, 2, 0, -2, 0), -1);
        due("teller not there", x.find(0, 5, 1, 2, 0, 1, 0), -1);
        due("finder -1", x.find(0, 5, 1, 2, 0, -1, -1), -1);
        due("finder 10", x.find(0, 5, 1, 2, 0, -1, 10), -1);
        due("finds", x.count(1), number);
        due("a is b, greatest", x.find(0, 255, 119, 119, 0, 0, 9), number);
        due("a and b 0", x.find(0, 0, 0, 0, 0, -1, 0), number + 1);
    }

    private static void testFindLimits() {
        IceSearch x = new IceSearch();
        for (int i = 0; i < 40; i++) {
            due("find " + i, x.find(3, 3, 0, 5, 15, -1, 0), i);
        }
        due("find 40", x.find(3, 3, 0, 5, 15, -1, 0), -1);
        due("finds", x.count(1), 40);
        due("the last", x.found(39, 0), 3);
        due("none behind it", x.found(40, 0), -2);
    }

    private static void testTrust() {
        IceSearch x = new IceSearch();
        x.teller(97, -1);
        x.teller(89, 0);
        x.teller(55, 1);
        x.teller(33, -1);
        for (int t = -1; t < 4; t++) {
            x.find(2, 0, 0, 0, 0, t, 0);
        }
        due("without TELLER", x.found(0, 7), 100);
        due("the TELLER's", x.found(1, 7), 97);
        due("89 * 97 / 100", x.found(2, 7), 86);
        // 55 * 89 / 100 is 48, of that 97 hundredths are 46 (with 89 * 97 first it would be 47).
        due("cut each time, from the TELLER on", x.found(3, 7), 46);
        due("another", x.found(4, 7), 33);
    }

    private static void testDoubt() {
        IceSearch x = new IceSearch();
        due("none there", x.doubt(0, true), false);
        x.find(3, 3, 0, 5, 15, -1, 0);
        due("find -1", x.doubt(-1, true), false);
        due("find 1", x.doubt(1, true), false);
        due("it isn't", x.doubt(0, false), false);
        due("DOUBTED", x.doubt(0, true), true);
        due("it's so", x.doubt(0, true), false);
        due("DOUBTED TODAY", x.count(2), 1);
        x.day(3);
        due("still so", x.doubt(0, true), false);
        due("no more", x.doubt(0, false), true);
        due("none TODAY", x.count(2), 0);
        due("KEPT by DAY 2", x.kept(2, 0), 0);
        due("KEPT by DAY 3", x.kept(3, 0), 1);
        due("again", x.doubt(0, true), true);
        due("the last one of a DAY holds", x.kept(3, 0), 0);
    }

    private static void testDoubtLimit() {
        IceSearch x = new IceSearch();
        x.find(3, 3, 0, 5, 15, -1, 0);
        x.find(3, 3, 0, 5, 15, -1, 0);
        for (int i = 0; i < 200; i++) {
            due("doubt " + i, x.doubt(0, i % 2 == 0), true);
        }
        due("doubt 200", x.doubt(0, true), false);
        due("of another find", x.doubt(1, true), false);
        due("the 200th holds", x.found(0, 9), 0);
    }

    private static void testFound() {
        IceSearch x = new IceSearch();
        x.teller(80, -1);
        x.day(12);
        x.find(1, 34, 5, 9, 2, 0, 7);
        x.find(4, 200, 6, 6, 99, -1, 3);
        int[][] want = {{1, 34, 5, 9, 2, 0, 7, 80, 12, 0}, {4, 200, 6, 6, 99, -1, 3, 100, 12, 1}};
        x.doubt(1, true);
        x.day(13);
        for (int find = 0; find < 2; find++) {
            for (int what = 0; what < 10; what++) {
                due("found(" + find + ", " + what + ")", x.found(find, what), want[find][what]);
            }
        }
        due("what -1", x.found(0, -1), -2);
        due("what 10", x.found(0, 10), -2);
        due("what MIN", x.found(0, MIN), -2);
        due("find -1", x.found(-1, 0), -2);
        due("find 2", x.found(2, 0), -2);
        due("find MAX", x.found(MAX, 9), -2);
    }

    private static void testRow() {
        IceSearch x = new IceSearch();
        due("nothing to clear", x.clear(), 0);
        due("move -1", x.move(-1), -1);
        due("move 9", x.move(9), -1);
        due("moves", x.count(10), 0);
        for (int i = 1; i <= 119; i++) {
            due("move " + i, x.move(i % 9), i);
        }
        due("move 120", x.move(0), -1);
        due("moves told", x.count(10), 119);
        due("cleared", x.clear(), 119);
        due("cleared again", x.clear(), 0);
        due("a first one", x.move(8), 1);
    }

    private static void testShip() {
        IceSearch x = new IceSearch();
        due("home -1", x.ship(-1, 5, 50), -1);
        due("home 256", x.ship(256, 5, 50), -1);
        due("range -1", x.ship(0, -1, 50), -1);
        due("range 21", x.ship(0, 21, 50), -1);
        due("well 0", x.ship(0, 5, 0), -1);
        due("well 101", x.ship(0, 5, 101), -1);
        due("SHIPS", x.count(5), 0);
        due("the least", x.ship(0, 0, 1), 0);
        due("the greatest", x.ship(255, 20, 100), 1);
        x.land(77, true);
        due("at land", x.ship(77, 1, 50), 2);
        due("the fourth", x.ship(0, 1, 50), 3);
        due("the fifth", x.ship(0, 1, 50), -1);
        due("four SHIPS", x.count(5), 4);
    }

    private static void testFeed() {
        IceSearch x = new IceSearch();
        for (int i = 1; i <= 35; i++) {
            due("feed " + i, x.feed(0, MIN, MAX, -1, 1), 20 * i);
        }
        due("feed 36", x.feed(0, 0, 0, 0, 0), -1);
        due("bytes on the tape", x.count(13), 700);
        due("all of it", x.rules(700), -1);
        due("the first byte was 0", x.fault(), 0);
        due("an empty tape", x.count(13), 0);
        // "stay;" and blanks, then what was behind is gone.
        due("feed", x.feed(0x73746179, 0x3b202020, 0x0a0a2020, 0x20202020, 0x67676767), 20);
        due("highest byte first", x.rules(16), 0);
        due("the tape is empty", x.count(13), 0);
    }

    private static void testHome() {
        IceSearch x = new IceSearch();
        due("home -1", x.home(-1, true), false);
        due("home 256", x.home(256, true), false);
        due("HOME CELLS", x.count(9), 0);
        due("no more, though it wasn't", x.home(7, false), true);
        due("none still", x.count(9), 0);
        due("home 0", x.home(0, true), true);
        due("home 255", x.home(255, true), true);
        due("home 255 again", x.home(255, true), true);
        due("two", x.count(9), 2);
        due("saved at once", x.would(0, 4), 0);
        due("no more", x.home(0, false), true);
        due("one", x.count(9), 1);
        due("not saved", x.would(0, 4), -1);
        x.land(9, true);
        due("land is fine", x.home(9, true), true);
    }

    private static void testCount() {
        IceSearch x = new IceSearch();
        x.day(4);
        x.lost(17, 3, 3, -1);
        x.teller(50, -1);
        x.teller(50, 0);
        for (int i = 0; i < 5; i++) {
            x.find(0, i, 0, 1, 0, -1, 0);
        }
        x.doubt(3, true);
        x.doubt(1, true);
        x.doubt(3, false);
        x.ice(1, 1, true);
        x.ice(1, 1, false);
        x.ice(1, 1, true);
        x.ship(1, 1, 1);
        due("rules", Texts.rules(x, "stay;go east;"), 0);
        due("rules", Texts.rules(x, "leave;pay 1 for told;stay;"), 1);
        due("beside", Texts.beside(x, "stay;"), 0);
        x.land(40, true);
        x.land(41, true);
        x.home(40, true);
        x.move(0);
        x.move(0);
        x.set(33, 44);
        x.feed(0, 0, 0, 0, 0);
        int[] want = {4, 5, 1, 3, 2, 1, 2, 3, 2, 1, 2, 33, 44, 20, 1};
        for (int what = 0; what < want.length; what++) {
            due("count(" + what + ")", x.count(what), want[what]);
        }
        due("count(-1)", x.count(-1), -1);
        due("count(15)", x.count(15), -1);
        due("count(MIN)", x.count(MIN), -1);
        due("rules without statements", x.rules(0), 2);
        due("statements of the last", x.count(7), 0);
    }
}
