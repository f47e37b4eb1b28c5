/** Promises 21 to 27: who is ALIVE, CHANCE moved and lessened, and SHIPS that look. */
public final class ChanceTest {
    private static final Check CHECK = new Check("ChanceTest");
    private static final int NO_LEAD = -2000000000;
    private static final int MAX = Integer.MAX_VALUE;

    public static void main(String[] args) {
        testAlive();
        testChance();
        testRest();
        testChanceByYear();
        testNothing();
        testOthers();
        testOrder();
        testStepZero();
        testLeft();
        testLead();
        testWrong();
        testTrip();
        testTripOverLand();
        testBest();
        testBestTies();
        testBestOfMany();
        testNoRow();
        testBestByToday();
        CHECK.end();
    }

    private static void due(String call, long got, long want) {
        CHECK.due(call, got, want);
    }

    private static IceSearch lostAt(int cell, int last) {
        IceSearch x = new IceSearch();
        x.lost(cell, 10, 100, -1);
        x.set(last, 50);
        return x;
    }

    private static void testAlive() {
        IceSearch x = new IceSearch();
        x.lost(0, 25, 60, -1);
        // Two STEPS are fed in full; then 10 are left for 25.
        int[] want = {25, 25, 25, 22, 19, 17, 15, 13, 11, 9, 8, 7, 6, 5, 4, 3, 2, 1, 0, 0};
        for (int step = 0; step < want.length; step++) {
            due("alive(" + step + ")", x.alive(step), want[step]);
        }
        due("STEP -1", x.alive(-1), -1);
        due("STEP 120", x.alive(120), -1);
        due("STEP 119", x.alive(119), 0);
        x.lost(0, 200, 99999, -1);
        due("STEP 119 with FOOD", x.alive(119), 200);
        x.lost(0, 10, 10, -1);
        due("just enough", x.alive(1), 10);
        due("none left", x.alive(2), 8);
    }

    private static void testChance() {
        IceSearch x = lostAt(34, 2);
        due("on STEP 0", x.chance(0, 34, 0), 1000000000);
        due("nowhere else", x.chance(0, 35, 0), 0);
        due("a ninth", x.chance(0, 33, 1), 111111111);
        due("what is left stays", x.chance(0, 34, 1), 111111112);
        x = lostAt(0, 1);
        due("in the corner", x.chance(0, 17, 1), 250000000);
        x.land(1, true);
        due("not to land", x.chance(0, 1, 1), 0);
        due("a third", x.chance(0, 16, 1), 333333333);
        due("the rest", x.chance(0, 0, 1), 333333334);
        x.ice(0, 0, true);
        due("staying though SHUT", x.chance(0, 0, 1), 333333334);
        x.ice(16, 0, true);
        due("not to SHUT sea", x.chance(0, 16, 1), 0);
        due("a half", x.chance(0, 17, 1), 500000000);
        x.lost(0, 10, 100, 1);
        due("ashore", x.chance(0, 1, 1), 250000000);
        x.lost(0, 10, 100, 2);
        due("not yet ashore", x.chance(0, 1, 1), 0);
        x.lost(255, 10, 100, -1);
        due("in the last corner", x.chance(0, 238, 1), 250000000);
    }

    private static void testRest() {
        IceSearch x = lostAt(0, 3);
        for (int cell = 0; cell < 256; cell++) {
            if (cell != 0 && cell != 1 && cell != 2) {
                x.land(cell, true);
            }
        }
        x.find(4, 1, 1, 1, 33, -1, 0);
        due("two of them", x.chance(0, 0, 1), 500000000);
        due("67 hundredths", x.chance(0, 1, 1), 335000000);
        // 335,000,000 in three is 111,666,666 and 2 left, which stay; 500,000,000 in two.
        due("on STEP 2 at 0", x.chance(0, 0, 2), 361666666);
        due("on STEP 2 at 1", x.chance(0, 1, 2), 361666668);
        due("on STEP 2 at 2", x.chance(0, 2, 2), 111666666);
    }

    private static void testChanceByYear() {
        IceSearch x = lostAt(34, 12);
        for (int cell = 0; cell < 256; cell++) {
            if (cell != 34 && cell != 35) {
                x.land(cell, true);
            }
        }
        x.day(3);
        x.ice(35, 0, true);
        due("SHUT in the YEAR 0", x.chance(3, 34, 9), 1000000000);
        due("as KNOWN before", x.chance(2, 35, 9), 500000000);
        due("open in the YEAR 1", x.chance(3, 35, 10), 500000000);
        due("on LAST", x.chance(3, 35, 12), 500000000);
    }

    private static void testNothing() {
        IceSearch x = lostAt(0, 5);
        for (int cell = 1; cell < 256; cell++) {
            x.land(cell, true);
        }
        x.find(4, 0, 2, 3, 30, -1, 0);
        due("before", x.chance(0, 0, 1), 1000000000);
        due("on a", x.chance(0, 0, 2), 700000000);
        due("on b", x.chance(0, 0, 3), 490000000);
        due("behind", x.chance(0, 0, 5), 490000000);
        x.find(4, 0, 4, 4, 99, -1, 0);
        due("99 hundredths", x.chance(0, 0, 4), 4900000);
        x.find(4, 0, 5, 5, 100, -1, 0);
        due("all", x.chance(0, 0, 5), 0);
        x.doubt(0, true);
        due("without the doubted", x.chance(0, 0, 4), 10000000);
        x.teller(1, -1);
        x.find(4, 0, 1, 1, 50, 0, 0);
        due("trust is nothing to it, nor HOLD", x.chance(0, 0, 1), 500000000);
    }

    private static void testOthers() {
        IceSearch x = lostAt(0, 3);
        for (int cell = 1; cell < 256; cell++) {
            x.land(cell, true);
        }
        x.teller(30, -1);
        x.find(2, 3, 1, 2, 2, 0, 0);
        due("on a nothing", x.chance(0, 0, 1), 1000000000);
        due("on b", x.chance(0, 0, 2), 700000000);
        due("behind", x.chance(0, 0, 3), 700000000);
        x.find(2, 3, 2, 3, 3, 0, 0);
        due("near enough", x.chance(0, 0, 3), 700000000);
        x.find(1, 3, 3, 3, 2, -1, 0);
        due("trust 100", x.chance(0, 0, 3), 0);
        x.day(4);
        x.doubt(2, true);
        due("as KNOWN before", x.chance(3, 0, 3), 0);
        due("as KNOWN now", x.chance(4, 0, 3), 700000000);
        x.find(0, 1, 3, 3, 0, 0, 0);
        due("a later find", x.chance(4, 0, 3), 490000000);
        due("not KNOWN yet", x.chance(3, 0, 3), 0);
        x.find(0, 0, 3, 3, 0, 0, 0);
        due("there itself", x.chance(4, 0, 3), 490000000);
    }

    private static void testOrder() {
        IceSearch x = lostAt(0, 3);
        x.land(1, true);
        x.land(16, true);
        x.land(17, true);
        x.teller(67, -1);
        int[] seven = {3, 1, 3, 1, 3, 1, 2};
        for (int n : seven) {
            x.find(4, 0, 1, 1, 100 - 7 * n, -1, 0);
        }
        // 21, 7, 21, 7, 21, 7 and 14 hundredths, cut each time.
        due("cut by numbers", x.chance(0, 0, 1), 444);
        x = lostAt(0, 1);
        for (int cell = 1; cell < 256; cell++) {
            x.land(cell, true);
        }
        x.teller(67, -1);
        for (int i = 0; i < 4; i++) {
            x.find(4, 0, 1, 1, 99, -1, 0);
        }
        x.find(0, 9, 1, 1, 0, 0, 0);
        due("10 and then 33 hundredths", x.chance(0, 0, 1), 3);
        x.find(4, 0, 1, 1, 50, -1, 0);
        due("and half of it", x.chance(0, 0, 1), 1);
    }

    private static void testStepZero() {
        IceSearch x = lostAt(34, 1);
        x.find(4, 34, 0, 0, 100, -1, 0);
        x.find(0, 99, 0, 0, 0, -1, 0);
        due("finds act with each STEP from 1 on", x.chance(0, 34, 0), 1000000000);
        due("so they don't act behind it either", x.left(0, 1), 1000000000);
    }

    private static void testLeft() {
        IceSearch x = lostAt(34, 4);
        due("all", x.left(0, 4), 1000000000);
        x.find(4, 34, 1, 1, 50, -1, 0);
        due("less a half of 111,111,112", x.left(0, 1), 944444444);
        due("on STEP 0", x.left(0, 0), 1000000000);
        x.find(0, 34, 2, 2, 0, -1, 0);
        due("only at the CELL", x.left(0, 2), x.chance(0, 34, 2));
        due("STEP -1", x.left(0, -1), -1);
        due("LAST and 1", x.left(0, 5), -1);
        due("DAY -1", x.left(-1, 0), -1);
        due("DAY 1000", x.left(1000, 0), -1);
        due("DAY 999", x.left(999, 0), 1000000000);
    }

    private static void testLead() {
        IceSearch x = lostAt(34, 2);
        x.find(4, 34, 1, 1, 50, -1, 0);
        due("half of 111,111,112 less", x.lead(0, 34, 1, 0), -55555556);
        due("elsewhere none", x.lead(0, 35, 1, 0), 0);
        due("before it none", x.lead(0, 34, 0, 0), 0);
        due("behind it", x.lead(0, 17, 2, 0), -6172840);
        x.doubt(0, true);
        due("a doubted one has none", x.lead(0, 34, 1, 0), 0);
        x.day(5);
        x.find(4, 34, 1, 1, 50, -1, 0);
        due("not KNOWN yet", x.lead(4, 34, 1, 1), 0);
        due("KNOWN", x.lead(5, 34, 1, 1), -55555556);
        due("DAY -1", x.lead(-1, 34, 1, 0), NO_LEAD);
        due("DAY 1000", x.lead(1000, 34, 1, 0), NO_LEAD);
        due("CELL -1", x.lead(0, -1, 1, 0), NO_LEAD);
        due("CELL 256", x.lead(0, 256, 1, 0), NO_LEAD);
        due("STEP -1", x.lead(0, 34, -1, 0), NO_LEAD);
        due("STEP 3", x.lead(0, 34, 3, 0), NO_LEAD);
        due("find -1", x.lead(0, 34, 1, -1), NO_LEAD);
        due("find 2", x.lead(0, 34, 1, 2), NO_LEAD);
    }

    private static void testWrong() {
        IceSearch x = lostAt(34, 2);
        due("DAY -1", x.chance(-1, 34, 0), -1);
        due("DAY 1000", x.chance(1000, 34, 0), -1);
        due("CELL -1", x.chance(0, -1, 0), -1);
        due("CELL 256", x.chance(0, 256, 0), -1);
        due("STEP -1", x.chance(0, 34, -1), -1);
        due("STEP 3", x.chance(0, 34, 3), -1);
        due("STEP MAX", x.chance(0, 34, MAX), -1);
    }

    private static void testTrip() {
        IceSearch x = lostAt(0, 15);
        due("no SHIP", x.trip(0, 0), -1);
        x.ship(34, 2, 50);
        x.ship(0, 20, 50);
        x.ship(99, 0, 50);
        due("at home", x.trip(0, 34), 0);
        due("one move", x.trip(0, 17), 1);
        due("two moves", x.trip(0, 36), 2);
        due("out of RANGE", x.trip(0, 37), -1);
        due("far", x.trip(1, 255), 15);
        due("RANGE 0: home", x.trip(2, 99), 0);
        due("RANGE 0: beside", x.trip(2, 98), -1);
        due("SHIP -1", x.trip(-1, 34), -1);
        due("SHIP 3", x.trip(3, 34), -1);
        due("CELL -1", x.trip(0, -1), -1);
        due("CELL 256", x.trip(0, 256), -1);
        x.ice(17, 0, true);
        due("SHUT in another YEAR than LAST's", x.trip(0, 17), 1);
        x.ice(17, 1, true);
        due("SHUT in LAST's YEAR", x.trip(0, 17), -1);
        due("round it", x.trip(0, 0), -1);
        x.day(3);
        x.ice(17, 1, false);
        due("as KNOWN TODAY", x.trip(0, 17), 1);
        x.ice(34, 1, true);
        due("from a SHUT home", x.trip(0, 35), 1);
        due("at a SHUT home", x.trip(0, 34), 0);
        x.ice(98, 1, true);
        due("through a SHUT home", x.trip(0, 36), 2);
    }

    private static void testTripOverLand() {
        IceSearch x = lostAt(0, 0);
        // A wall of land from 51 to 255 in the column 3, and a gap at 35 in the row 2.
        for (int row = 0; row < 16; row++) {
            if (row != 2) {
                x.land(16 * row + 3, true);
            }
        }
        x.ship(162, 20, 50);
        due("land by the last move", x.trip(0, 163), 1);
        due("not over land", x.trip(0, 164), 16);
        due("land behind the wall", x.trip(0, 147), 1);
        x.land(35, true);
        due("nothing behind the wall", x.trip(0, 164), -1);
        x.ship(163, 2, 50);
        due("a home on land", x.trip(1, 163), 0);
        due("from there to sea", x.trip(1, 164), 1);
        due("on to land", x.trip(1, 147), 1);
        due("land by two moves", x.trip(1, 131), 2);
        x.ice(147, 0, true);
        due("SHUT land is land", x.trip(1, 147), 1);
    }

    private static void testBest() {
        IceSearch x = lostAt(34, 1);
        due("without SHIPS", x.best(0), -1);
        due("no row either", x.best(10), -1);
        x.ship(35, 1, 10);
        due("a tenth of a ninth is the same at all", x.best(10), 18);
        due("a tenth", x.best(0), 11111111);
        x.ship(35, 1, 90);
        due("the better one looks there", x.best(11), 34);
        due("the other beside", x.best(10), 18);
        due("together", x.best(0), 11111111 + 100000000);
        x.ship(35, 0, 1);
        due("only at home", x.best(12), 35);
        due("three", x.best(0), 11111111 + 100000000 + 1111111);
        due("SHIP 3", x.best(13), -1);
        due("what 1", x.best(1), -1);
        due("what 9", x.best(9), -1);
        due("what -1", x.best(-1), -1);
        due("what MIN", x.best(Integer.MIN_VALUE), -1);
        due("what MAX", x.best(MAX), -1);
        x.ship(200, 3, 100);
        due("nothing found there", x.best(0), 11111111 + 100000000 + 1111111);
        due("the least CELL", x.best(13), 149);
    }

    private static void testBestTies() {
        IceSearch x = lostAt(34, 0);
        for (int i = 0; i < 4; i++) {
            x.ship(34, 1, 25);
        }
        due("one finds", x.best(0), 250000000);
        due("the least row: 17", x.best(10), 17);
        due("the least row: 18", x.best(11), 18);
        due("the least row: 19", x.best(12), 19);
        due("the least row: 34", x.best(13), 34);
        x = lostAt(34, 0);
        x.ship(34, 1, 25);
        x.ship(34, 1, 24);
        due("the better one", x.best(10), 34);
        due("the other one", x.best(11), 17);
        // Where the cut makes 0 of all, the least row stands.
        x = lostAt(34, 1);
        for (int cell = 0; cell < 256; cell++) {
            if (cell != 34 && cell != 35) {
                x.land(cell, true);
            }
        }
        x.find(4, 34, 1, 1, 100, -1, 0);
        for (int i = 0; i < 4; i++) {
            x.find(4, 35, 1, 1, 99, -1, 0);
        }
        due("5 left", x.chance(0, 35, 1), 5);
        x.ship(34, 1, 19);
        due("19 hundredths of 5", x.best(0), 0);
        due("so the least CELL", x.best(10), 17);
        x.ship(34, 1, 20);
        due("20 hundredths of 5", x.best(0), 1);
        due("the first at 17", x.best(10), 17);
        due("the second finds", x.best(11), 35);
    }

    private static void testBestOfMany() {
        IceSearch x = lostAt(34, 1);
        for (int cell = 17; cell <= 19; cell++) {
            x.find(4, cell, 1, 1, 90 - cell, -1, 0);
        }
        int[] want = {33, 34, 35, 49};
        for (int i = 0; i < 4; i++) {
            x.ship(34, 1, 100);
        }
        due("four of nine", x.best(0), 444444445);
        for (int i = 0; i < 4; i++) {
            due("four of nine: " + i, x.best(10 + i), want[i]);
        }
        x = lostAt(0, 1);
        for (int cell = 2; cell < 256; cell++) {
            x.land(cell, true);
        }
        x.ship(0, 0, 100);
        x.ship(0, 1, 100);
        due("the first at the CELL 0", x.best(10), 0);
        due("the second at the CELL 1", x.best(11), 1);
        due("all", x.best(0), 1000000000);
    }

    private static void testNoRow() {
        IceSearch x = lostAt(34, 0);
        x.ship(34, 0, 50);
        due("one", x.best(0), 500000000);
        x.ship(34, 0, 60);
        due("two at one CELL", x.best(0), -1);
        due("no CELL of the first", x.best(10), -1);
        due("no CELL of the second", x.best(11), -1);
        x = lostAt(34, 0);
        for (int cell = 0; cell < 256; cell++) {
            if (cell != 34 && cell != 35 && cell != 36) {
                x.ice(cell % 256, 0, true);
            }
        }
        x.land(33, false);
        x.ship(35, 1, 10);
        x.ship(35, 0, 100);
        x.ship(36, 0, 100);
        due("the first must take what is left", x.best(10), 34);
        due("all of them", x.best(0), 100000000);
    }

    private static void testBestByToday() {
        IceSearch x = lostAt(34, 1);
        x.ship(34, 1, 100);
        due("at 34", x.best(10), 34);
        x.day(5);
        x.find(4, 34, 1, 1, 100, -1, 0);
        due("as KNOWN TODAY", x.best(10), 17);
        x.ice(17, 0, true);
        due("SHUT as KNOWN TODAY", x.best(10), 18);
        due("an eighth", x.best(0), 125000000);
        x.set(0, 50);
        due("on LAST", x.best(0), 1000000000);
    }
}
