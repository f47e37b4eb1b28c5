/** Part 3 of the terms, and the promises 22 to 24, 26 and 27. */
final class SentencesOfChance extends Sentences {
    private static final String TERMS = "Terms 3";
    private static final int ALL = 1000000000;

    SentencesOfChance(Doc doc, Check check) {
        super(doc, check);
    }

    @Override
    void testAll() {
        testStepZero();
        testParted();
        testRestStays();
        testLeft();
        testLead();
        testActs();
        testActsByNumbers();
        testNothing();
        testOthers();
        testTrustCut();
        testShipsLimit();
        testRange();
        testWell();
        testMoves();
        testOverSea();
        testToLand();
        testHome();
        testBest();
        testUnlike();
        testLeastRow();
        testTrip();
        testKnownToday();
        testWithoutShips();
        testPromisedChance();
        testPromisedLeft();
        testPromisedLead();
        testPromisedTrip();
        testPromisedBest();
    }

    private void testStepZero() {
        says(TERMS, "CHANCE as KNOWN by a DAY of a CELL on a STEP: on STEP 0 a MASS of 1,000,000,000 lies at the "
            + "LOST's CELL.");
        for (int start : new int[] {0, 15, 34, 240, 255}) {
            IceSearch x = lostAt(start, 0);
            x.find(4, start, 0, 0, 100, NONE, 0);
            x.find(0, 100, 0, 0, 0, NONE, 0);
            for (int cell = 0; cell < 256; cell++) {
                due("at " + cell, x.chance(0, cell, 0), cell == start ? ALL : 0);
            }
        }
    }

    private void testParted() {
        says(TERMS, "With each STEP from 1 on: the MASS of each CELL is parted: to each one to which they may GO then "
            + "(itself, too) "
            + "the same (cut);");
        int[] sea = {34, 35, 33, 18, 50, 17, 19, 49, 51};
        for (int many = 1; many <= 9; many++) {
            int[] cells = new int[many];
            System.arraycopy(sea, 0, cells, 0, many);
            IceSearch x = seaAt(1, cells);
            for (int i = 0; i < 9; i++) {
                int want = i == 0 ? ALL / many + ALL % many : i < many ? ALL / many : 0;
                due("in " + many + ", at " + sea[i], x.chance(0, sea[i], 1), want);
            }
        }
        IceSearch x = seaAt(2, 34, 35, 36);
        // On STEP 1 they're at 34 and 35; each parts what it has at once.
        due("34 on STEP 2", x.chance(0, 34, 2), 250000000 + 166666666);
        due("35 on STEP 2", x.chance(0, 35, 2), 250000000 + 166666668);
        due("36 on STEP 2", x.chance(0, 36, 2), 166666666);
        x = seaAt(10, 34, 35);
        x.ice(34, 0, true);
        due("SHUT behind them: a half stays", x.chance(0, 34, 1), 500000000);
        due("and a quarter", x.chance(0, 34, 2), 250000000);
        due("none comes back", x.chance(0, 35, 9), ALL - x.chance(0, 34, 9));
        x.lost(34, 1, 0, 1);
        due("ASHORE, to all", x.chance(0, 17, 1), 111111111);
    }

    private void testRestStays() {
        says(TERMS, "the same (cut); what is left stays.");
        IceSearch x = seaAt(2, 34, 35, 36);
        for (int i = 0; i < 4; i++) {
            x.find(4, 34, 1, 1, 99, NONE, 0);
            x.find(4, 35, 1, 1, i < 3 ? 98 : 75, NONE, 0);
        }
        // 500,000,000 lie at each of both: 5 of these are left at 34, and 1,000 of 4,000 at 35.
        due("5 at 34", x.chance(0, 34, 1), 5);
        due("1,000 at 35", x.chance(0, 35, 1), 1000);
        due("2 go, 3 stay, 333 come", x.chance(0, 34, 2), 3 + 333);
        due("666 go, 334 stay, 2 come", x.chance(0, 35, 2), 334 + 2);
        due("333 come", x.chance(0, 36, 2), 333);
        due("nothing is lost", x.left(0, 2), 1005);
    }

    private void testLeft() {
        says(TERMS, "LEFT on a STEP is all MASS;");
        IceSearch x = lostAt(34, 119);
        due("on STEP 0", x.left(0, 0), ALL);
        due("on STEP 119", x.left(0, 119), ALL);
        x.find(4, 34, 1, 1, 100, NONE, 0);
        due("without 111,111,112", x.left(0, 1), 888888888);
        due("on STEP 0 as before", x.left(0, 0), ALL);
        x.find(0, 255, 2, 2, 0, NONE, 0);
        due("nothing is left", x.left(0, 2), 0);
        due("nor later", x.left(0, 119), 0);
    }

    private void testLead() {
        says(TERMS, "a find's LEAD is CHANCE less what it would be without that find.");
        IceSearch x = seaAt(4, 34, 35);
        x.find(4, 34, 1, 1, 100, NONE, 0);
        due("all at 34", x.lead(0, 34, 1, 0), -500000000);
        due("none at 35", x.lead(0, 35, 1, 0), 0);
        due("on STEP 0", x.lead(0, 34, 0, 0), 0);
        due("behind it at 34", x.lead(0, 34, 2, 0), -250000000);
        due("behind it at 35", x.lead(0, 35, 2, 0), -250000000);
        x.find(4, 34, 1, 1, 100, NONE, 0);
        due("another does the same", x.lead(0, 34, 1, 0), 0);
        x = seaAt(2, 34, 35);
        x.find(4, 34, 1, 1, 99, NONE, 0);
        for (int i = 0; i < 3; i++) {
            x.find(4, 34, 1, 1, 99, NONE, 0);
            x.find(4, 35, 1, 1, 100, NONE, 0);
        }
        due("5 are left, 3 of these stay", x.chance(0, 34, 2), 3);
        due("without it 250", x.lead(0, 34, 2, 0), 3 - 250);
        x.find(4, 34, 1, 1, 80, NONE, 0);
        due("1 is left and stays", x.chance(0, 34, 2), 1);
        due("without it 3", x.lead(0, 34, 2, 7), -2);
        x.find(4, 35, 2, 2, 100, NONE, 0);
        due("at 35", x.lead(0, 35, 2, 8), 0);
        x = seaAt(1, 34);
        x.find(0, 0, 1, 1, 0, NONE, 0);
        due("the least", x.lead(0, 34, 1, 0), -ALL);
        x = seaAt(2, 34, 33, 35);
        x.find(4, 33, 1, 1, 100, NONE, 0);
        x.find(4, 35, 1, 1, 100, NONE, 0);
        for (int i = 0; i < 4; i++) {
            x.find(4, 34, 1, 1, 99, NONE, 0);
        }
        x.find(4, 34, 1, 1, 30, NONE, 0);
        // 2 in three stay all, of 3 but one stays.
        due("above 0 by the rest", x.lead(0, 34, 2, 6), 1);
        due("below 0 beside it", x.lead(0, 33, 2, 6), -1);
    }

    private void testActs() {
        says(TERMS, "Then, by numbers, each find KNOWN by the DAY that isn't DOUBTED acts, if the STEP is from a to "
            + "b:");
        IceSearch x = seaAt(6, 34);
        x.day(2);
        x.find(4, 34, 2, 4, 50, NONE, 0);
        x.day(5);
        x.doubt(0, true);
        int[] want = {ALL, ALL, 500000000, 250000000, 125000000, 125000000, 125000000};
        for (int step = 0; step <= 6; step++) {
            due("on DAY 1, STEP " + step, x.chance(1, 34, step), ALL);
            due("on DAY 2, STEP " + step, x.chance(2, 34, step), want[step]);
            due("on DAY 4, STEP " + step, x.chance(4, 34, step), want[step]);
            due("on DAY 5, STEP " + step, x.chance(5, 34, step), ALL);
        }
        x.find(4, 34, 0, 1, 50, NONE, 0);
        due("not on STEP 0", x.chance(5, 34, 0), ALL);
        due("from STEP 1 on", x.chance(5, 34, 1), 500000000);
        x = seaAt(1, 34, 35);
        x.find(4, 34, 1, 1, 100, NONE, 0);
        due("behind what moves", x.chance(0, 34, 1), 0);
        due("so a half is left", x.chance(0, 35, 1), 500000000);
    }

    private void testActsByNumbers() {
        says(TERMS, "by numbers, each find");
        // 90 hundredths of 10 are 9, of these 35 are 3; the other way round they're 3 and 2.
        int[][] orders = {{10, 65, 3}, {65, 10, 2}};
        for (int[] order : orders) {
            IceSearch x = tenLeft();
            x.find(4, 34, 1, 1, order[0], NONE, 0);
            x.find(4, 34, 1, 1, order[1], NONE, 0);
            due("KIND 4 with " + order[0] + ", then " + order[1], x.chance(0, 34, 1), order[2]);
        }
        IceSearch x = tenLeft();
        x.find(0, 0, 1, 1, 0, 0, 0);
        x.find(4, 34, 1, 1, 65, NONE, 0);
        due("a paper, then KIND 4", x.chance(0, 34, 1), 3);
        x = tenLeft();
        x.find(4, 34, 1, 1, 65, NONE, 0);
        x.find(0, 0, 1, 1, 0, 0, 0);
        due("KIND 4, then a paper", x.chance(0, 34, 1), 2);
        x = tenLeft();
        x.find(0, 0, 1, 1, 0, 1, 0);
        x.find(0, 0, 1, 1, 0, 0, 0);
        due("two papers", x.chance(0, 34, 1), 2);
    }

    /** A MASS of 10 at the CELL 34 on STEP 1; TELLERS with TRUST 10 and 65. */
    private static IceSearch tenLeft() {
        IceSearch x = seaAt(1, 34);
        x.teller(10, NONE);
        x.teller(65, NONE);
        for (int i = 0; i < 4; i++) {
            x.find(4, 34, 1, 1, 99, NONE, 0);
        }
        return x;
    }

    private void testNothing() {
        says(TERMS, "of KIND 4 the MASS at the CELL becomes 100 less n hundredths of it (cut);");
        int[][] want = {{1, 990000000}, {50, 500000000}, {99, 10000000}, {100, 0}};
        for (int[] w : want) {
            IceSearch x = seaAt(1, 34);
            x.teller(0, NONE);
            x.find(4, 34, 1, 1, w[0], 0, 0);
            due("n " + w[0] + ", whatever its TRUST", x.chance(0, 34, 1), w[1]);
        }
        IceSearch x = seaAt(1, 34, 35);
        x.find(4, 35, 1, 1, 100, NONE, 0);
        due("not beside it", x.chance(0, 34, 1), 500000000);
        x.find(4, 200, 1, 1, 100, NONE, 0);
        due("where no MASS is", x.chance(0, 200, 1), 0);
        x = seaAt(1, 34);
        for (int i = 0; i < 5; i++) {
            x.find(4, 34, 1, 1, 99, NONE, 0);
        }
        due("one hundredth of 10 is 0", x.chance(0, 34, 1), 0);
    }

    private void testOthers() {
        says(TERMS, "of KIND 0 to 3 on STEP b alone:");
        for (int kind = 0; kind < 4; kind++) {
            IceSearch x = seaAt(5, 34);
            x.find(kind, 37, 2, 4, 0, NONE, 0);
            due("KIND " + kind + " on a", x.chance(0, 34, 2), ALL);
            due("KIND " + kind + " before b", x.chance(0, 34, 3), ALL);
            due("KIND " + kind + " on b", x.chance(0, 34, 4), 0);
            x.find(kind, 37, 1, 1, 0, NONE, 0);
            due("KIND " + kind + ", a is b", x.chance(0, 34, 1), 0);
            x = seaAt(1, 34);
            x.find(kind, 37, 0, 0, 0, NONE, 0);
            due("KIND " + kind + ", b is 0", x.chance(0, 34, 1), ALL);
        }
    }

    private void testTrustCut() {
        says(TERMS, "the MASS of each CELL further than n from its CELL becomes 100 less TRUST hundredths of it "
            + "(cut).");
        int[] most = {0, 2, 5, 15};
        for (int kind = 0; kind < 4; kind++) {
            int n = most[kind];
            IceSearch x = seaAt(1, 34);
            x.teller(40, NONE);
            x.find(kind, n < 15 ? 34 + n : 32 + 15, 1, 1, n, 0, 0);
            due("KIND " + kind + ", not further than n", x.chance(0, 34, 1), ALL);
            x.find(kind, n < 15 ? 34 + n + 1 : 224, 1, 1, Math.min(n, 11), 0, 0);
            due("KIND " + kind + ", further than n", x.chance(0, 34, 1), 600000000);
        }
        int[][] want = {{0, ALL}, {1, 990000000}, {99, 10000000}, {100, 0}};
        for (int[] w : want) {
            IceSearch x = seaAt(1, 34, 35);
            x.teller(w[0], NONE);
            x.find(0, 35, 1, 1, 0, 0, 0);
            due("TRUST " + w[0] + ", further", x.chance(0, 34, 1), w[1] / 2);
            due("TRUST " + w[0] + ", at the CELL", x.chance(0, 35, 1), 500000000);
            x.set(1, 100);
            due("TRUST " + w[0] + ", whatever HOLD is", x.chance(0, 34, 1), w[1] / 2);
        }
        IceSearch x = lostAt(34, 1);
        x.find(1, 36, 1, 1, 1, NONE, 0);
        int[] left = {19, 35, 51};
        due("three of nine are left", x.left(0, 1), 333333333);
        for (int cell : left) {
            due("at " + cell, x.chance(0, cell, 1), 111111111);
        }
    }

    private void testShipsLimit() {
        says(TERMS, "SHIPS, up to 4, look on STEP LAST: each at a CELL at home,");
        IceSearch x = seaAt(0, 34, 35, 36);
        for (int i = 0; i < 4; i++) {
            due("SHIP " + i, x.ship(34 + i, 0, 100), i);
        }
        due("the fifth", x.ship(38, 0, 100), NONE);
        due("SHIPS", x.count(5), 4);
        due("SHIP 3 on land", x.best(13), 37);
        due("no SHIP 4", x.best(14), NONE);
        due("LAST 0", x.best(0), ALL);
        x.set(1, 50);
        due("LAST 1", x.best(0), ALL);
        x.find(4, 34, 2, 2, 100, NONE, 0);
        due("before STEP 2", x.best(0), ALL);
        x.set(2, 50);
        due("on STEP 2", x.best(0), x.left(0, 2));
    }

    private void testRange() {
        says(TERMS, "with a RANGE (0 to 20)");
        IceSearch x = lostAt(34, 0);
        for (int range : new int[] {MIN, -1, 21, MAX}) {
            due("RANGE " + range, x.ship(0, range, 1), NONE);
        }
        due("RANGE 0", x.ship(0, 0, 1), 0);
        due("RANGE 20", x.ship(0, 20, 1), 1);
    }

    private void testWell() {
        says(TERMS, "and how well it looks (1 to 100 hundredths).");
        IceSearch x = lostAt(34, 0);
        for (int well : new int[] {MIN, -1, 0, 101, MAX}) {
            due("well " + well, x.ship(34, 0, well), NONE);
        }
        for (int well : new int[] {1, 99, 100}) {
            x = lostAt(34, 0);
            due("well " + well, x.ship(34, 0, well), 0);
            due("it finds", x.best(0), 10000000 * well);
        }
    }

    private void testMoves() {
        says(TERMS, "It comes by moves (from a CELL to one with FAR 1), at most RANGE of them,");
        for (int range = 0; range <= 4; range++) {
            IceSearch x = lostAt(34, 0);
            x.ship(119, range, 100);
            for (int cell = 0; cell < 256; cell++) {
                int far = Math.max(Math.abs(7 - cell / 16), Math.abs(7 - cell % 16));
                due("RANGE " + range + " to " + cell, x.trip(0, cell), far <= range ? far : NONE);
            }
        }
        IceSearch x = lostAt(34, 0);
        // A wall in the column 3 leaves a gap in the row 15 alone, 15 moves from the home.
        for (int row = 0; row < 15; row++) {
            x.land(16 * row + 3, true);
        }
        x.ship(0, 20, 100);
        x.ship(0, 19, 100);
        due("down, then to the end of RANGE", x.trip(0, 16 * 10 + 5), 20);
        due("one move too few", x.trip(1, 16 * 10 + 5), NONE);
        due("one further", x.trip(0, 16 * 9 + 5), NONE);
        due("the end of the smaller RANGE", x.trip(1, 16 * 11 + 5), 19);
    }

    private void testOverSea() {
        says(TERMS, "from its home over sea that isn't SHUT in LAST's YEAR to such sea,");
        IceSearch x = seaAt(15, 34, 35, 36, 37);
        x.ship(34, 20, 100);
        due("along the sea", x.trip(0, 37), 3);
        x.ice(36, 0, true);
        due("SHUT in the YEAR before", x.trip(0, 37), 3);
        x.ice(36, 2, true);
        due("SHUT in the YEAR behind", x.trip(0, 37), 3);
        x.ice(36, 1, true);
        due("SHUT in LAST's YEAR", x.trip(0, 36), NONE);
        due("behind it", x.trip(0, 37), NONE);
        due("before it", x.trip(0, 35), 1);
        x.set(9, 50);
        due("LAST's YEAR is 0", x.trip(0, 36), NONE);
        x.ice(36, 0, false);
        due("open in it", x.trip(0, 37), 3);
        x.set(10, 50);
        due("LAST's YEAR is 1", x.trip(0, 37), NONE);
        x.set(20, 50);
        due("LAST's YEAR is 2", x.trip(0, 37), NONE);
        x.set(30, 50);
        due("LAST's YEAR is 3", x.trip(0, 37), 3);
    }

    private void testToLand() {
        says(TERMS, "or, by its last move, to land");
        IceSearch x = seaAt(0, 34, 35);
        x.ship(34, 20, 100);
        due("land beside home", x.trip(0, 33), 1);
        due("land behind sea", x.trip(0, 36), 2);
        due("not over land", x.trip(0, 37), NONE);
        due("not over land, west", x.trip(0, 32), NONE);
        x.ice(33, 0, true);
        due("SHUT land is land", x.trip(0, 33), 1);
        x.ice(35, 0, true);
        due("not over SHUT sea", x.trip(0, 36), NONE);
    }

    private void testHome() {
        says(TERMS, "(its home itself by none).");
        IceSearch x = seaAt(0, 34, 35, 36);
        x.ship(35, 0, 100);
        due("RANGE 0", x.trip(0, 35), 0);
        due("nowhere else", x.trip(0, 34), NONE);
        x.ice(35, 0, true);
        due("a SHUT home", x.trip(0, 35), 0);
        x.ship(35, 1, 100);
        due("out of a SHUT home", x.trip(1, 36), 1);
        x.ship(200, 20, 100);
        due("a home on land", x.trip(2, 200), 0);
        due("from land to land", x.trip(2, 201), 1);
        due("no further", x.trip(2, 202), NONE);
        x.ship(52, 3, 100);
        due("from land to SHUT sea", x.trip(3, 35), NONE);
        due("from land to sea", x.trip(3, 36), 1);
        due("and on to land", x.trip(3, 38), NONE);
        due("and on to land beside it", x.trip(3, 37), 1);
    }

    private void testBest() {
        says(TERMS, "BEST: CELLS for all SHIPS, all unlike, of which the hundredths (cut) of CHANCE on LAST by how "
            + "well each looks "
            + "together are most;");
        IceSearch x = seaAt(1, 34, 35, 36);
        x.find(4, 34, 1, 1, 40, NONE, 0);
        x.ship(34, 1, 50);
        due("a half of 500,000,000", x.best(0), 250000000);
        due("at 35", x.best(10), 35);
        x.ship(36, 1, 60);
        due("the better one at 35, the other at 34", x.best(0), 300000000 + 150000000);
        due("the first at 34", x.best(10), 34);
        due("the second at 35", x.best(11), 35);
        x = seaAt(1, 34, 35);
        for (int i = 0; i < 4; i++) {
            x.find(4, 34, 1, 1, 99, NONE, 0);
            x.find(4, 35, 1, 1, i < 3 ? 99 : 97, NONE, 0);
        }
        // 5 are left at 34, 15 at 35: 35 hundredths of 15 are 5.25, 17 of 5 are 0.85; the cut of both together were 6.
        x.ship(34, 1, 35);
        x.ship(34, 1, 17);
        due("5 and 0, not 6 together", x.best(0), 5);
        x.ship(34, 1, 20);
        due("5 and 1", x.best(0), 6);
    }

    private void testUnlike() {
        says(TERMS, "CELLS for all SHIPS, all unlike,");
        IceSearch x = lostAt(34, 0);
        x.ship(34, 0, 1);
        x.ship(34, 1, 100);
        due("the second must be elsewhere", x.best(0), 10000000);
        due("the first at home", x.best(10), 34);
        due("the second at the least CELL", x.best(11), 17);
        x.ship(34, 0, 1);
        due("two at one home", x.best(0), NONE);
        for (int what = 10; what <= 13; what++) {
            due("no CELL, what " + what, x.best(what), NONE);
        }
        x = lostAt(34, 1);
        for (int i = 0; i < 4; i++) {
            x.ship(34, 1, 100);
            x.find(4, i < 3 ? 17 + i : 33, 1, 1, 10 + i, NONE, 0);
        }
        int[] last = {34, 35, 49, 50};
        for (int i = 0; i < 4; i++) {
            due("SHIP " + i + " where most is", x.best(10 + i), last[i]);
        }
        due("four ninths", x.best(0), 444444445);
        x = seaAt(0, 34);
        x.ship(0, 0, 1);
        x.ship(1, 0, 1);
        x.ship(0, 1, 1);
        x.ship(0, 1, 1);
        due("2 homes, 4 CELLS", x.best(0), 0);
        int[] want = {0, 1, 16, 17};
        for (int i = 0; i < 4; i++) {
            due("SHIP " + i, x.best(10 + i), want[i]);
        }
    }

    private void testLeastRow() {
        says(TERMS, "of several the least row by SHIPS' numbers.");
        IceSearch x = lostAt(34, 1);
        for (int i = 0; i < 4; i++) {
            x.ship(34, 1, 100);
        }
        // The start has one more than all others: one SHIP is there, the last one, by the least row.
        int[] want = {17, 18, 19, 34};
        for (int i = 0; i < 4; i++) {
            due("SHIP " + i, x.best(10 + i), want[i]);
        }
        x = lostAt(200, 0);
        x.ship(34, 1, 100);
        x.ship(17, 1, 100);
        due("nothing to find", x.best(0), 0);
        due("the first takes its least", x.best(10), 17);
        due("the second its least", x.best(11), 0);
        x = lostAt(200, 0);
        x.ship(17, 1, 100);
        x.ship(0, 0, 100);
        due("the first can't have 0", x.best(10), 1);
        due("the second has it", x.best(11), 0);
    }

    private void testTrip() {
        says(TERMS, "TRIP: the fewest such moves to a CELL.");
        IceSearch x = lostAt(34, 0);
        x.land(118, true);
        x.land(102, true);
        x.land(134, true);
        x.ship(119, 20, 100);
        due("home", x.trip(0, 119), 0);
        due("straight", x.trip(0, 124), 5);
        due("round land", x.trip(0, 117), 4);
        due("land itself", x.trip(0, 118), 1);
        due("across", x.trip(0, 255), 8);
        due("the far corner, not straight over land", x.trip(0, 0), 8);
    }

    private void testKnownToday() {
        says(TERMS, "(KNOWN TODAY;");
        IceSearch x = seaAt(1, 34, 35, 36);
        x.ship(34, 20, 100);
        due("open", x.trip(0, 36), 2);
        due("the least of two", x.best(10), 34);
        x.day(4);
        x.ice(35, 0, true);
        x.find(4, 34, 1, 1, 100, NONE, 0);
        due("SHUT TODAY", x.trip(0, 36), NONE);
        due("nothing TODAY", x.best(0), 0);
        due("as KNOWN before", x.chance(3, 35, 1), 500000000);
        x.day(5);
        x.ice(35, 0, false);
        due("open TODAY", x.trip(0, 36), 2);
        due("a half TODAY", x.best(0), 500000000);
        due("at 35", x.best(10), 35);
    }

    private void testWithoutShips() {
        says(TERMS, "without SHIPS no row.)");
        IceSearch x = lostAt(34, 0);
        for (int what : new int[] {0, 10, 11, 12, 13}) {
            due("what " + what, x.best(what), NONE);
        }
        x.ship(34, 0, 100);
        due("with one", x.best(0), ALL);
    }

    private void testPromisedChance() {
        says("Promise 22", "CHANCE (STEP at most LAST).");
        IceSearch x = lostAt(34, 2);
        due("on STEP 0", x.chance(0, 34, 0), ALL);
        due("on LAST", x.chance(0, 0, 2), 12345679);
        x.set(0, 50);
        due("LAST 0", x.chance(0, 34, 0), ALL);
        says("Promise 22", "NONE: none such.");
        for (int step : new int[] {MIN, -1, 1, 119, 120, MAX}) {
            due("STEP " + step, x.chance(0, 34, step), NONE);
        }
        for (int cell : NO_CELLS) {
            due("CELL " + cell, x.chance(0, cell, 0), NONE);
        }
        for (int day : NO_DAYS) {
            due("DAY " + day, x.chance(day, 34, 0), NONE);
        }
    }

    private void testPromisedLeft() {
        says("Promise 23", "LEFT (STEP at most LAST).");
        IceSearch x = lostAt(34, 2);
        due("on LAST", x.left(0, 2), ALL);
        x.set(0, 50);
        due("LAST 0", x.left(0, 0), ALL);
        says("Promise 23", "NONE: none such.");
        for (int step : new int[] {MIN, -1, 1, 119, 120, MAX}) {
            due("STEP " + step, x.left(0, step), NONE);
        }
        for (int day : NO_DAYS) {
            due("DAY " + day, x.left(day, 0), NONE);
        }
    }

    private void testPromisedLead() {
        says("Promise 24", "LEAD of a find.");
        IceSearch x = seaAt(1, 34);
        x.day(3);
        x.find(4, 34, 1, 1, 10, NONE, 0);
        due("a tenth", x.lead(3, 34, 1, 0), -100000000);
        due("not KNOWN yet", x.lead(2, 34, 1, 0), 0);
        x.doubt(0, true);
        due("DOUBTED", x.lead(3, 34, 1, 0), 0);
        says("Promise 24", "-2,000,000,000: none such.");
        for (int find : new int[] {MIN, -1, 1, 39, 40, MAX}) {
            due("find " + find, x.lead(0, 34, 0, find), NO_LEAD);
        }
        for (int step : new int[] {MIN, -1, 2, 119, 120, MAX}) {
            due("STEP " + step, x.lead(0, 34, step, 0), NO_LEAD);
        }
        for (int cell : NO_CELLS) {
            due("CELL " + cell, x.lead(0, cell, 0, 0), NO_LEAD);
        }
        for (int day : NO_DAYS) {
            due("DAY " + day, x.lead(day, 34, 0, 0), NO_LEAD);
        }
    }

    private void testPromisedTrip() {
        says("Promise 26", "TRIP (KNOWN TODAY).");
        IceSearch x = lostAt(34, 0);
        x.ship(0, 2, 1);
        due("home", x.trip(0, 0), 0);
        due("two moves", x.trip(0, 34), 2);
        x.day(9);
        x.ice(17, 0, true);
        x.ice(18, 0, true);
        x.ice(33, 0, true);
        due("not over these", x.trip(0, 34), NONE);
        says("Promise 26", "NONE: none such, it doesn't come there.");
        due("three moves", x.trip(0, 3), NONE);
        due("SHUT sea", x.trip(0, 17), NONE);
        for (int ship : new int[] {MIN, -1, 1, 3, 4, MAX}) {
            due("SHIP " + ship, x.trip(ship, 0), NONE);
        }
        for (int cell : NO_CELLS) {
            due("CELL " + cell, x.trip(0, cell), NONE);
        }
    }

    private void testPromisedBest() {
        says("Promise 27", "BEST: all together (what 0), 10 + s the CELL of SHIP s.");
        IceSearch x = lostAt(34, 0);
        x.ship(34, 1, 100);
        x.ship(35, 1, 30);
        due("all together", x.best(0), ALL);
        due("SHIP 0", x.best(10), 34);
        due("SHIP 1", x.best(11), 18);
        says("Promise 27", "NONE: none such, no such row.");
        for (int what : new int[] {MIN, -1, 1, 2, 9, 12, 13, 14, 20, MAX}) {
            due("what " + what, x.best(what), NONE);
        }
        x.ship(7, 0, 100);
        x.ship(7, 0, 100);
        for (int what : new int[] {0, 10, 11, 12, 13}) {
            due("no such row, what " + what, x.best(what), NONE);
        }
    }
}
