import java.util.Arrays;

/** Part 1 of the terms, and the promises that tell and count: 1 to 11, 18, 19, 25, 28, 32, 37. */
final class SentencesTold extends Sentences {
    private static final String TERMS = "Terms 1";
    private static final int BLANKS = 0x20202020;

    SentencesTold(Doc doc, Check check) {
        super(doc, check);
    }

    @Override
    void testAll() {
        testCells();
        testRowsAndColumns();
        testEdgesOfRows();
        testSeaAtFirst();
        testSteps();
        testYears();
        testDays();
        testKnown();
        testIceLimit();
        testIceLastTold();
        testFar();
        testLostAtSea();
        testMen();
        testFood();
        testAshore();
        testGoFar();
        testGoWhere();
        testStay();
        testWay();
        testFindsLimit();
        testKinds();
        testFindParts();
        testMeets();
        testReaches();
        testLooked();
        testNeverThere();
        testTellersLimit();
        testTellerTrust();
        testTold();
        testTrust();
        testTrustCut();
        testDoubtLimit();
        testDoubtLastTold();
        testNew();
        testPromisedDay();
        testPromisedLand();
        testPromisedLost();
        testPromisedSet();
        testPromisedIce();
        testPromisedShut();
        testPromisedTeller();
        testPromisedFind();
        testPromisedDoubt();
        testPromisedFound();
        testPromisedMove();
        testPromisedClear();
        testPromisedShip();
        testPromisedFeed();
        testPromisedHome();
        testPromisedCount();
        testUse();
        testConstants();
    }

    private void testCells() {
        says(TERMS, "CELLS 0 to 255:");
        IceSearch x = lostAt(34, 0);
        x.find(0, 34, 0, 0, 0, NONE, 0);
        x.ship(34, 20, 50);
        String before = counts(x);
        for (int cell : NO_CELLS) {
            due("land(" + cell + ", true)", x.land(cell, true), false);
            due("land(" + cell + ", false)", x.land(cell, false), false);
            due("lost(" + cell + ", ..)", x.lost(cell, 1, 0, NONE), false);
            due("ice(" + cell + ", ..)", x.ice(cell, 0, true), NONE);
            due("shut(" + cell + ", ..)", x.shut(cell, 0, 0), NONE);
            due("find(0, " + cell + ", ..)", x.find(0, cell, 0, 0, 0, NONE, 0), NONE);
            due("at(0, " + cell + ", 0)", x.at(0, cell, 0), NONE);
            due("sure(0, " + cell + ")", x.sure(0, cell), NONE);
            due("chance(0, " + cell + ", 0)", x.chance(0, cell, 0), NONE);
            due("lead(0, " + cell + ", ..)", x.lead(0, cell, 0, 0), NO_LEAD);
            due("ship(" + cell + ", ..)", x.ship(cell, 1, 1), NONE);
            due("trip(0, " + cell + ")", x.trip(0, cell), NONE);
            due("home(" + cell + ", true)", x.home(cell, true), false);
        }
        dueNothingDone(x, before);
        for (int cell : new int[] {0, 255}) {
            due("land(" + cell + ", true)", x.land(cell, true), true);
            due("land(" + cell + ", false)", x.land(cell, false), true);
            due("lost(" + cell + ", ..)", x.lost(cell, 1, 0, NONE), true);
            due("ice(" + cell + ", ..)", x.ice(cell, 0, true) > 0, true);
            due("shut(" + cell + ", ..)", x.shut(cell, 0, 0), 1);
            due("find(0, " + cell + ", ..)", x.find(3, cell, 0, 0, 15, NONE, 0) > 0, true);
            due("at(0, " + cell + ", 0)", new IceSearch().at(0, cell, 0), cell == 0 ? 1 : 0);
            due("sure(0, " + cell + ")", new IceSearch().sure(0, cell), cell == 0 ? 1 : 0);
            due("chance(0, " + cell + ", 0)", x.chance(0, cell, 0), 1000000000);
            due("lead(0, " + cell + ", ..)", x.lead(0, cell, 0, 0), 0);
            due("ship(" + cell + ", ..)", x.ship(cell, 1, 1) > 0, true);
            due("trip from " + cell, x.trip(cell == 0 ? 1 : 2, cell), 0);
            due("home(" + cell + ", true)", x.home(cell, true), true);
        }
    }

    private void testRowsAndColumns() {
        says(TERMS, "16 times a row and a column (0 to 15 each; row 0 lies north, column 0 west);");
        // By number these follow each other, or would if rows and columns went round.
        int[][] apart = {{15, 16}, {16, 15}, {15, 32}, {32, 15}, {0, 31}, {31, 0}, {239, 240}, {240, 239}, {255, 240},
            {240, 255}, {0, 15}, {15, 0}, {0, 240}, {240, 0}, {0, 255}, {255, 0}, {16, 31}, {31, 16}, {5, 245}};
        for (int[] pair : apart) {
            String from = "from " + pair[0] + " to " + pair[1];
            IceSearch x = lostAt(pair[0], 1);
            x.ship(pair[0], 1, 100);
            due("at " + from, x.at(0, pair[1], 1), 0);
            due("chance " + from, x.chance(0, pair[1], 1), 0);
            due("trip " + from, x.trip(0, pair[1]), NONE);
            x.find(3, pair[1], 0, 0, 14, NONE, 0);
            due("a find near " + from, x.fits(0), Math.abs(pair[0] % 16 - pair[1] % 16) == 15
                || Math.abs(pair[0] / 16 - pair[1] / 16) == 15 ? 0 : 1);
        }
        int[] starts = {0, 15, 240, 255, 7, 248, 112, 127, 119};
        int[] beside = {4, 4, 4, 4, 6, 6, 6, 6, 9};
        for (int i = 0; i < starts.length; i++) {
            IceSearch x = lostAt(starts[i], 1);
            due("ends from " + starts[i], x.ends(0), beside[i]);
            due("a share at " + starts[i], x.chance(0, starts[i], 1), 1000000000 / beside[i] + 1000000000 % beside[i]);
            due("left from " + starts[i], x.left(0, 1), 1000000000);
        }
        int[] next = {18, 35, 50, 33};
        for (int d = 0; d < 4; d++) {
            IceSearch x = lostAt(34, 1);
            Texts.rules(x, "go " + DIRECTIONS[d] + ";");
            due(DIRECTIONS[d] + " of 34", x.would(0, 0), next[d]);
        }
    }

    private void testEdgesOfRows() {
        says(TERMS, "(0 to 15 each; row 0 lies north, column 0 west)");
        int[] edges = {8, 143, 248, 128};
        int[][] out = {{1, 2, 8}, {2, 3, 4}, {4, 5, 6}, {6, 7, 8}};
        for (int d = 0; d < 4; d++) {
            for (int to = 0; to <= 8; to++) {
                IceSearch x = lostAt(edges[d], 0);
                x.move(to);
                boolean leaves = to == out[d][0] || to == out[d][1] || to == out[d][2];
                due("move " + to + " from " + edges[d], x.judge(0), leaves ? 1 : NONE);
                x.lost(edges[d], 100, 99999, 0);
                due("move " + to + " from " + edges[d] + ", ASHORE", x.judge(0), leaves ? 1 : NONE);
            }
            IceSearch x = lostAt(edges[d], 2);
            Texts.rules(x, "go " + DIRECTIONS[d] + ";");
            due("go " + DIRECTIONS[d] + " from " + edges[d], x.would(0, 0), edges[d]);
            Texts.rules(x, "leave if afoot=0;walk " + DIRECTIONS[d] + ";");
            due("walk " + DIRECTIONS[d] + " from " + edges[d], x.would(0, 0), edges[d]);
            Texts.rules(x, "leave if " + DIRECTIONS[d] + "=0;");
            due(DIRECTIONS[d] + "=0 at " + edges[d], x.would(0, 3), 1);
        }
    }

    private void testSeaAtFirst() {
        says(TERMS, "each is sea at first.");
        IceSearch x = new IceSearch();
        for (int cell = 255; cell >= 0; cell--) {
            due("lost(" + cell + ", ..)", x.lost(cell, 1, 0, NONE), true);
        }
        due("land", x.count(8), 0);
    }

    private void testSteps() {
        says(TERMS, "STEPS 0 to 119,");
        IceSearch x = lostAt(34, 119);
        x.find(0, 34, 0, 0, 0, NONE, 0);
        Texts.beside(x, "stay;");
        String before = counts(x);
        for (int step : NO_STEPS) {
            due("alive(" + step + ")", x.alive(step), NONE);
            due("lost(.., " + step + ")", x.lost(34, 100, 99999, step), step == NONE);
            due("set(" + step + ", 50)", x.set(step, 50), false);
            due("find(.., " + step + ", 119, ..)", x.find(0, 34, step, 119, 0, NONE, 0), NONE);
            due("find(.., 0, " + step + ", ..)", x.find(0, 34, 0, step, 0, NONE, 0), NONE);
            due("at(.., " + step + ")", x.at(0, 34, step), NONE);
            due("chance(.., " + step + ")", x.chance(0, 34, step), NONE);
            due("left(0, " + step + ")", x.left(0, step), NONE);
            due("lead(.., " + step + ", 0)", x.lead(0, 34, step, 0), NO_LEAD);
            due("would(0, 100 + " + step + ")", x.would(0, 100 + step), NONE_SUCH);
        }
        dueNothingDone(x, before);
        for (int step : new int[] {0, 119}) {
            due("alive(" + step + ")", x.alive(step), 100);
            due("lost(.., " + step + ")", x.lost(34, 100, 99999, step), true);
            due("at(.., " + step + ")", x.at(0, 34, step), 1);
            due("chance(.., " + step + ")", x.chance(0, 34, step) > 0, true);
            due("left(0, " + step + ")", x.left(0, step), 1000000000);
            due("lead(.., " + step + ", 0)", x.lead(0, 34, step, 0), 0);
            due("would(0, 100 + " + step + ")", x.would(0, 100 + step), 34);
        }
        due("find(.., 0, 119, ..)", x.find(0, 34, 0, 119, 0, NONE, 0), 1);
        due("find(.., 119, 119, ..)", x.find(0, 34, 119, 119, 0, NONE, 0), 2);
        due("set(0, 50)", x.set(0, 50), true);
    }

    private void testYears() {
        says(TERMS, "ten a YEAR (0 to 11).");
        for (int year : new int[] {MIN, -1, 12, 13, MAX}) {
            IceSearch x = new IceSearch();
            due("ice(0, " + year + ", true)", x.ice(0, year, true), NONE);
            due("shut(0, " + year + ", 0)", x.shut(0, year, 0), NONE);
            due("ICE told", x.count(3), 0);
        }
        for (int year = 0; year <= 11; year++) {
            for (int step : new int[] {10 * year - 1, 10 * year, 10 * year + 9, 10 * year + 10}) {
                if (step >= 1 && step <= 119) {
                    IceSearch x = lostAt(34, 119);
                    due("ice(35, " + year + ", true)", x.ice(35, year, true), 1);
                    moveOn(x, step, 3);
                    due("SHUT in " + year + ", judged on " + step, x.judge(0), step / 10 == year ? step : NONE);
                    Texts.rules(x, "go east if step=" + step + ";");
                    due("SHUT in " + year + ", would on " + step, x.would(0, 0), step / 10 == year ? 34 : 35);
                }
            }
        }
    }

    private void testDays() {
        says(TERMS, "DAYS 0 to 999: TODAY is 0 at first.");
        IceSearch x = lostAt(34, 1);
        due("TODAY", x.count(0), 0);
        x.find(0, 34, 0, 0, 0, NONE, 0);
        Texts.beside(x, "stay;");
        for (int day : NO_DAYS) {
            due("day(" + day + ")", x.day(day), false);
            due("shut(0, 0, " + day + ")", x.shut(0, 0, day), NONE);
            due("kept(" + day + ", 0)", x.kept(day, 0), NONE);
            due("kept(" + day + ", 1)", x.kept(day, 1), NONE);
            due("kept(" + day + ", 10)", x.kept(day, 10), NONE);
            due("fits(" + day + ")", x.fits(day), NONE);
            due("most(" + day + ", 0)", x.most(day, 0), NONE);
            due("at(" + day + ", 34, 0)", x.at(day, 34, 0), NONE);
            due("sure(" + day + ", 34)", x.sure(day, 34), NONE);
            due("ends(" + day + ")", x.ends(day), NONE);
            due("judge(" + day + ")", x.judge(day), NONE_SUCH);
            due("chance(" + day + ", 34, 0)", x.chance(day, 34, 0), NONE);
            due("left(" + day + ", 0)", x.left(day, 0), NONE);
            due("lead(" + day + ", 34, 0, 0)", x.lead(day, 34, 0, 0), NO_LEAD);
            due("would(" + day + ", 0)", x.would(day, 0), NONE_SUCH);
            due("would(" + day + ", 100)", x.would(day, 100), NONE_SUCH);
            due("tried(" + day + ", 0)", x.tried(day, 0), NONE_SUCH);
            due("quarrel(" + day + ", 0)", x.quarrel(day, 0), NONE);
            due("paid(0, " + day + ")", x.paid(0, day), NONE_SUCH);
        }
        due("TODAY stays", x.count(0), 0);
        for (int day : new int[] {0, 1, 998, 999}) {
            due("shut(0, 0, " + day + ")", x.shut(0, 0, day), 0);
            due("kept(" + day + ", 0)", x.kept(day, 0), 1);
            due("fits(" + day + ")", x.fits(day), 1);
            due("most(" + day + ", 0)", x.most(day, 0), 1);
            due("at(" + day + ", 34, 0)", x.at(day, 34, 0), 1);
            due("sure(" + day + ", 34)", x.sure(day, 34), 1);
            due("ends(" + day + ")", x.ends(day), 9);
            due("judge(" + day + ")", x.judge(day), NONE);
            due("chance(" + day + ", 34, 0)", x.chance(day, 34, 0), 1000000000);
            due("left(" + day + ", 0)", x.left(day, 0), 1000000000);
            due("lead(" + day + ", 34, 0, 0)", x.lead(day, 34, 0, 0), 0);
            due("would(" + day + ", 0)", x.would(day, 0), 34);
            due("tried(" + day + ", 0)", x.tried(day, 0), 34);
            due("paid(0, " + day + ")", x.paid(0, day), 0);
        }
        due("the last DAY", x.day(999), true);
        Texts.rules(x, "pay 1 for paper;pay 2 for paper;");
        due("quarrel(998, 0)", x.quarrel(998, 0), NONE);
        due("quarrel(999, 0)", x.quarrel(999, 0), 0);
    }

    private void testKnown() {
        says(TERMS, "What is told is KNOWN from TODAY.");
        IceSearch x = lostAt(34, 1);
        x.day(5);
        x.ice(35, 0, true);
        x.find(0, 34, 0, 0, 0, NONE, 0);
        x.find(4, 33, 0, 1, 100, NONE, 0);
        Texts.rules(x, "go south;");
        for (int day : new int[] {0, 4, 5, 6, 999}) {
            int known = day >= 5 ? 1 : 0;
            due("ICE on " + day, x.shut(35, 0, day), known);
            due("a find on " + day, x.kept(day, 0), known);
            due("where nothing was on " + day, x.kept(day, 1), known);
            due("RULES on " + day, x.would(day, 0), known == 1 ? 50 : 34);
            due("WAYS on " + day, x.ends(day), 9 - 2 * known);
        }
        x.day(7);
        x.doubt(0, true);
        due("a doubt before", x.kept(6, 0), 1);
        due("a doubt from then on", x.kept(7, 0), 0);
    }

    private void testIceLimit() {
        says(TERMS, "ICE of a CELL in a YEAR is told SHUT or open, up to 200 times;");
        IceSearch x = new IceSearch();
        for (int i = 1; i <= 200; i++) {
            due("the time " + i, x.ice(i < 200 ? 7 : 8, 3, i != 199), i);
        }
        due("the 199th: open", x.shut(7, 3, 0), 0);
        due("the 200th: SHUT", x.shut(8, 3, 0), 1);
        due("the 201st", x.ice(9, 3, true), NONE);
        due("it isn't told", x.shut(9, 3, 0), 0);
    }

    private void testIceLastTold() {
        says(TERMS, "of those KNOWN the last one told holds; without it's open.");
        IceSearch x = new IceSearch();
        due("nothing told", x.shut(7, 3, 0), 0);
        x.ice(7, 3, true);
        x.day(4);
        x.ice(7, 3, false);
        x.day(8);
        x.ice(7, 3, false);
        x.ice(7, 3, true);
        int[] want = {1, 1, 1, 1, 0, 0, 0, 0, 1, 1};
        for (int day = 0; day < want.length; day++) {
            due("on DAY " + day, x.shut(7, 3, day), want[day]);
        }
        due("another CELL", x.shut(6, 3, 8), 0);
        due("the YEAR before", x.shut(7, 2, 8), 0);
        due("the YEAR behind", x.shut(7, 4, 8), 0);
    }

    private void testFar() {
        says(TERMS, "FAR of two CELLS: the greater one of the differences of rows and of columns.");
        for (int cell = 0; cell < 256; cell++) {
            int far = Math.max(cell / 16, cell % 16);
            for (int start : new int[] {0, 255}) {
                IceSearch x = lostAt(start, 0);
                int there = start == 0 ? cell : 255 - cell;
                x.find(3, there, 0, 0, far, NONE, 0);
                due("from " + start + " to " + there + " at most " + far, x.fits(0), 1);
                x.find(3, there, 0, 0, far - 1, NONE, 0);
                due("from " + start + " to " + there + " at most " + (far - 1), x.fits(0), far == 0 ? 1 : 0);
            }
        }
    }

    private void testLostAtSea() {
        says(TERMS, "The LOST: they are at a CELL (sea) on STEP 0,");
        IceSearch x = new IceSearch();
        x.land(9, true);
        due("at land", x.lost(9, 1, 0, NONE), false);
        due("not there", x.at(0, 9, 0), 0);
        x.land(9, false);
        x.ice(9, 0, true);
        due("at SHUT sea", x.lost(9, 1, 0, NONE), true);
        due("there on STEP 0", x.at(0, 9, 0), 1);
        due("nowhere else", x.at(0, 0, 0), 0);
    }

    private void testMen() {
        says(TERMS, "MEN (1 to 200),");
        IceSearch x = new IceSearch();
        for (int men : new int[] {MIN, -1, 0, 201, MAX}) {
            due("MEN " + men, x.lost(0, men, 5, NONE), false);
            due("as before", x.alive(0), 1);
        }
        for (int men : new int[] {1, 2, 199, 200}) {
            due("MEN " + men, x.lost(0, men, 5, NONE), true);
            due("alive(0)", x.alive(0), men);
        }
    }

    private void testFood() {
        says(TERMS, "FOOD (0 to 99,999: what one eats in a STEP);");
        IceSearch x = new IceSearch();
        x.set(1, 50);
        x.lost(0, 7, 77, NONE);
        for (int food : new int[] {MIN, -1, 100000, MAX}) {
            due("FOOD " + food, x.lost(0, 9, food, NONE), false);
            due("as before", x.would(0, 2), 70);
        }
        for (int food : new int[] {0, 8, 9, 10, 99998, 99999}) {
            due("FOOD " + food, x.lost(0, 9, food, NONE), true);
            due("behind a STEP", x.would(0, 2), Math.max(0, food - 9));
            due("alive(1)", x.alive(1), food < 9 ? 8 : 9);
        }
    }

    private void testAshore() {
        says(TERMS, "from STEP ASHORE on (NONE: never) they may walk.");
        for (int ashore : new int[] {0, 1, 2, 60, 118, 119}) {
            IceSearch x = seaAt(119, 34);
            due("ASHORE " + ashore, x.lost(34, 100, 99999, ashore), true);
            int first = Math.max(1, ashore);
            due("before ASHORE " + ashore, x.at(0, 35, first - 1), 0);
            due("on ASHORE " + ashore, x.at(0, 35, first), 1);
            due("share before " + ashore, x.chance(0, 35, first - 1), 0);
            due("share on " + ashore, x.chance(0, 35, first), 111111111);
        }
        IceSearch x = seaAt(119, 34);
        for (int ashore : new int[] {MIN, -2, 120, MAX}) {
            due("ASHORE " + ashore, x.lost(34, 100, 99999, ashore), false);
        }
        due("ASHORE NONE", x.lost(34, 100, 99999, NONE), true);
        due("never", x.at(0, 35, 119), 0);
        due("all stay", x.chance(0, 34, 119), 1000000000);
    }

    private void testGoFar() {
        says(TERMS, "They may GO from a CELL to itself or one with FAR 1 on a STEP (to be there on it):");
        IceSearch x = lostAt(119, 2);
        for (int cell = 0; cell < 256; cell++) {
            int far = Math.max(Math.abs(7 - cell / 16), Math.abs(7 - cell % 16));
            due("at " + cell + " on STEP 1", x.at(0, cell, 1), far <= 1 ? 1 : 0);
        }
        for (int cell = 1; cell < 256; cell += 2) {
            int far = Math.max(Math.abs(7 - cell / 16), Math.abs(7 - cell % 16));
            due("at " + cell + " on STEP 2", x.at(0, cell, 2), far <= 2 ? 1 : 0);
        }
        due("on STEP 0", x.at(0, 119, 0), 1);
        due("not yet on STEP 0", x.at(0, 118, 0), 0);
    }

    private void testGoWhere() {
        says(TERMS, "to sea that isn't SHUT in its YEAR as KNOWN by the DAY that is asked for, or, from ASHORE on, to "
            + "any.");
        IceSearch x = lostAt(34, 10);
        x.land(33, true);
        x.day(3);
        for (int cell : new int[] {17, 18, 19, 35, 49, 50, 51}) {
            x.ice(cell, 0, true);
        }
        due("as KNOWN before: sea", x.at(2, 35, 1), 1);
        due("as KNOWN before: land", x.at(2, 33, 1), 0);
        due("SHUT", x.at(3, 35, 1), 0);
        due("SHUT up to the YEAR's last STEP", x.at(3, 35, 9), 0);
        due("its YEAR is that of the STEP it's reached on", x.at(3, 35, 10), 1);
        due("land in each YEAR", x.at(3, 33, 10), 0);
        due("share of SHUT sea", x.chance(3, 35, 9), 0);
        due("share in the next YEAR", x.chance(3, 35, 10), 125000000);
        x.lost(34, 1, 0, 9);
        due("not yet to SHUT sea", x.at(3, 35, 8), 0);
        due("not yet to land", x.at(3, 33, 8), 0);
        due("from ASHORE on to SHUT sea", x.at(3, 35, 9), 1);
        due("from ASHORE on to land", x.at(3, 33, 9), 1);
        due("share ashore", x.chance(3, 33, 9), 111111111);
        moveOn(x, 8, 3);
        due("judged before ASHORE", x.judge(3), 8);
        moveOn(x, 9, 3);
        due("judged on ASHORE", x.judge(3), NONE);
        moveOn(x, 9, 7);
        due("judged on ASHORE, to land", x.judge(3), NONE);
    }

    private void testStay() {
        says(TERMS, "(To stay at a CELL they may always.)");
        IceSearch x = lostAt(34, 119);
        for (int year = 0; year < 12; year++) {
            x.ice(34, year, true);
            x.ice(35, year, true);
        }
        due("at SHUT sea", x.at(0, 34, 119), 1);
        moveOn(x, 119, 0);
        due("a ROW that stays", x.judge(0), NONE);
        move(x, 1, 0, 0, 5);
        due("but not back to it", x.judge(0), 4);
        x = seaAt(5, 34);
        x.ice(34, 0, true);
        due("alone and SHUT", x.ends(0), 1);
        due("all MASS stays", x.chance(0, 34, 5), 1000000000);
    }

    private void testWay() {
        says(TERMS, "A WAY goes from STEP 0 to LAST (0 to 119; 0 at first).");
        IceSearch x = new IceSearch();
        due("LAST at first", x.count(11), 0);
        due("STEP 0 alone", x.ends(0), 1);
        due("on STEP 0", x.at(0, 0, 0), 1);
        due("STEP 1 at first", x.at(0, 0, 1), NONE);
        due("CHANCE on STEP 1 at first", x.chance(0, 0, 1), NONE);
        due("LEFT on STEP 1 at first", x.left(0, 1), NONE);
        due("the CELL on STEP 0", x.would(0, 100), 0);
        due("the CELL on STEP 1 at first", x.would(0, 101), NONE_SUCH);
        int[] ends = {1, 4, 9, 16};
        for (int last = 0; last < ends.length; last++) {
            x.set(last, 50);
            due("ends with LAST " + last, x.ends(0), ends[last]);
            due("on LAST " + last, x.at(0, 0, last), 1);
            due("behind LAST " + last, x.at(0, 0, last + 1), NONE);
        }
        due("LAST 120", x.set(120, 50), false);
        due("LAST -1", x.set(-1, 50), false);
        due("LAST 119", x.set(119, 50), true);
        due("on STEP 119", x.at(0, 255, 119), 1);
    }

    private void testFindsLimit() {
        says(TERMS, "FINDS, up to 40:");
        IceSearch x = lostAt(34, 0);
        for (int i = 0; i < 40; i++) {
            due("find " + i, x.find(i == 39 ? 4 : 3, i, 0, 0, i == 39 ? 100 : 15, NONE, i % 10), i);
        }
        due("the 41st", x.find(4, 34, 0, 0, 100, NONE, 0), NONE);
        due("the 41st isn't there", x.found(40, 0), NONE_SUCH);
        due("the 40th is KEPT, the 41st isn't", x.kept(0, 1), 1);
        due("it's told", x.found(39, 1), 39);
        x.doubt(39, true);
        due("doubted ones are there, too", x.find(3, 34, 0, 0, 15, NONE, 0), NONE);
    }

    private void testKinds() {
        says(TERMS, "KIND 0 paper, 1 grave, 2 told, 3 bought, 4 nothing;");
        for (int kind : new int[] {MIN, -1, 5, MAX}) {
            IceSearch x = new IceSearch();
            for (int n : new int[] {0, 1, 100}) {
                due("KIND " + kind + " with n " + n, x.find(kind, 0, 0, 0, n, NONE, 0), NONE);
            }
        }
        for (int kind = 0; kind < 5; kind++) {
            IceSearch x = new IceSearch();
            due("KIND " + kind, x.find(kind, 0, 0, 0, kind == 4 ? 1 : 0, NONE, 0), 0);
            for (int other = 0; other < 5; other++) {
                Texts.rules(x, "pay 7 for " + KINDS[other] + ";");
                due("pay for " + KINDS[other], x.paid(0, 0), kind == other ? 7 : 0);
            }
        }
    }

    private void testFindParts() {
        says(TERMS, "a CELL, STEPS a to b, a number n, a TELLER (NONE), a FINDER (0 to 9).");
        IceSearch x = new IceSearch();
        x.teller(80, NONE);
        due("CELL -1", x.find(0, -1, 0, 0, 0, NONE, 0), NONE);
        due("CELL 256", x.find(0, 256, 0, 0, 0, NONE, 0), NONE);
        due("a -1", x.find(0, 0, -1, 0, 0, NONE, 0), NONE);
        due("b 120", x.find(0, 0, 0, 120, 0, NONE, 0), NONE);
        due("a and b 120", x.find(0, 0, 120, 120, 0, NONE, 0), NONE);
        due("a and b -1", x.find(0, 0, -1, -1, 0, NONE, 0), NONE);
        for (int finder : new int[] {MIN, -1, 10, MAX}) {
            due("FINDER " + finder, x.find(0, 0, 0, 0, 0, NONE, finder), NONE);
            due("paid(" + finder + ", 0)", x.paid(finder, 0), NONE_SUCH);
        }
        for (int teller : new int[] {MIN, -2, 1, 10, MAX}) {
            due("TELLER " + teller, x.find(0, 0, 0, 0, 0, teller, 0), NONE);
        }
        due("finds", x.count(1), 0);
        due("the least", x.find(0, 0, 0, 0, 0, NONE, 0), 0);
        due("the greatest", x.find(4, 255, 119, 119, 100, 0, 9), 1);
        due("FINDER 9", x.paid(9, 0), 0);
    }

    private void testMeets() {
        says(TERMS, "Of 0 to 3 a WAY MEETS it, if on one of these STEPS that it has it's at most n from the CELL");
        for (int kind = 0; kind < 4; kind++) {
            IceSearch x = seaAt(9, 34, 35, 36, 37);
            x.find(kind, 37, 2, 2, 0, NONE, 0);
            due("a STEP too early, KIND " + kind, x.fits(0), 0);
            x.doubt(0, true);
            x.find(kind, 37, 2, 3, 0, NONE, 0);
            due("by b, KIND " + kind, x.fits(0), 1);
            due("on b alone", x.at(0, 37, 3), 1);
            due("not before", x.at(0, 37, 2), 0);
            x.find(kind, 34, 3, 4, 0, NONE, 0);
            due("two of one STEP", x.fits(0), 0);
            x.doubt(1, true);
            due("a or b", x.fits(0), 1);
            x.set(3, 50);
            due("a is LAST", x.fits(0), 1);
            x.set(2, 50);
            due("no STEP that it has", x.fits(0), 0);
            due("no STEP of the ROW", x.judge(0), 1002);
        }
        IceSearch x = seaAt(9, 34, 35, 36, 37);
        x.find(1, 39, 2, 2, 2, NONE, 0);
        due("FAR 3 with n 2", x.fits(0), 0);
        x.set(3, 50);
        x.find(1, 39, 3, 3, 2, NONE, 0);
        due("both", x.most(0, 1), 2);
        x.find(1, 38, 2, 2, 2, NONE, 0);
        due("FAR 2 with n 2", x.most(0, 1), 6);
    }

    private void testReaches() {
        says(TERMS, "(n: 0 for paper, 0 to 2 for grave, 0 to 5 for told, 0 to 15 for bought).");
        int[] most = {0, 2, 5, 15};
        for (int kind = 0; kind < 4; kind++) {
            IceSearch x = new IceSearch();
            for (int n : new int[] {MIN, -1, most[kind] + 1, 100, 101, MAX}) {
                due("KIND " + kind + " with n " + n, x.find(kind, 0, 0, 0, n, NONE, 0), NONE);
            }
            due("finds", x.count(1), 0);
            for (int n = 0; n <= most[kind]; n++) {
                due("KIND " + kind + " with n " + n, x.find(kind, 0, 0, 0, n, NONE, 0), n);
                due("its n", x.found(n, 4), n);
            }
        }
    }

    private void testLooked() {
        says(TERMS, "Of 4 (n: how well they looked, 1 to 100 hundredths)");
        IceSearch x = seaAt(1, 34);
        for (int n : new int[] {MIN, -1, 0, 101, MAX}) {
            due("n " + n, x.find(4, 34, 1, 1, n, NONE, 0), NONE);
        }
        due("n 1", x.find(4, 34, 1, 1, 1, NONE, 0), 0);
        due("one hundredth less", x.chance(0, 34, 1), 990000000);
        x.doubt(0, true);
        due("n 100", x.find(4, 34, 1, 1, 100, NONE, 0), 1);
        due("nothing left", x.chance(0, 34, 1), 0);
    }

    private void testNeverThere() {
        says(TERMS, "a WAY MEETS it if it's never at the CELL on these STEPS.");
        IceSearch x = lostAt(34, 4);
        x.find(4, 35, 2, 3, 100, NONE, 0);
        int[] want = {0, 1, 0, 0, 1};
        for (int step = 0; step <= 4; step++) {
            due("at the CELL on STEP " + step, x.at(0, 35, step), want[step]);
        }
        due("beside it", x.at(0, 36, 2), 1);
        x.find(4, 34, 5, 9, 100, NONE, 0);
        due("STEPS behind LAST", x.at(0, 34, 4), 1);
        x.find(4, 34, 4, 9, 100, NONE, 0);
        due("from LAST on", x.at(0, 34, 4), 0);
        due("the STEP before", x.at(0, 34, 3), 1);
        x.find(4, 34, 0, 0, 100, NONE, 0);
        due("on STEP 0", x.fits(0), 0);
    }

    private void testTellersLimit() {
        says(TERMS, "TELLERS, up to 10:");
        IceSearch x = new IceSearch();
        for (int i = 0; i < 10; i++) {
            due("TELLER " + i, x.teller(90 + i, NONE), i);
        }
        due("the eleventh", x.teller(90, NONE), NONE);
        due("a find of the tenth", x.find(0, 0, 0, 0, 0, 9, 0), 0);
        due("its TRUST", x.found(0, 7), 99);
        due("a find of the eleventh", x.find(0, 0, 0, 0, 0, 10, 0), NONE);
    }

    private void testTellerTrust() {
        says(TERMS, "TRUST 0 to 100,");
        IceSearch x = new IceSearch();
        for (int trust : new int[] {MIN, -1, 101, MAX}) {
            due("TRUST " + trust, x.teller(trust, NONE), NONE);
        }
        due("TELLERS", x.count(4), 0);
        due("TRUST 0", x.teller(0, NONE), 0);
        due("TRUST 100", x.teller(100, NONE), 1);
        x.find(0, 0, 0, 0, 0, 0, 0);
        x.find(0, 0, 0, 0, 0, 1, 0);
        due("of a find, 0", x.found(0, 7), 0);
        due("of a find, 100", x.found(1, 7), 100);
    }

    private void testTold() {
        says(TERMS, "and who told them (a TELLER with a lesser number; NONE).");
        IceSearch x = new IceSearch();
        for (int number = 0; number < 4; number++) {
            for (int by : new int[] {MIN, -2, number, number + 1, 9, 10, MAX}) {
                due("TELLER " + number + " told by " + by, x.teller(50, by), NONE);
            }
            due("TELLER " + number, x.teller(50, number - 1), number);
        }
        due("by the first", x.teller(50, 0), 4);
        due("by none", x.teller(50, NONE), 5);
    }

    private void testTrust() {
        says(TERMS, "A find's TRUST: 100 without TELLER; else the TELLER's,");
        IceSearch x = new IceSearch();
        x.teller(37, NONE);
        x.find(4, 0, 0, 0, 100, NONE, 0);
        x.find(4, 0, 0, 0, 100, 0, 0);
        due("without", x.found(0, 7), 100);
        due("with", x.found(1, 7), 37);
    }

    private void testTrustCut() {
        says(TERMS, "and each time one told them so many hundredths (cut) of it.");
        IceSearch x = new IceSearch();
        for (int i = 0; i < 10; i++) {
            x.teller(99, i - 1);
        }
        for (int i = 0; i < 10; i++) {
            x.find(0, 0, 0, 0, 0, i, 0);
            due("99 hundredths " + i + " times", x.found(i, 7), 99 - i);
        }
        x = new IceSearch();
        int[] trusts = {100, 50, 1, 0, 100};
        int[] want = {100, 50, 0, 0, 0};
        for (int i = 0; i < 5; i++) {
            x.teller(trusts[i], i - 1);
            x.find(0, 0, 0, 0, 0, i, 0);
            due("of TELLER " + i, x.found(i, 7), want[i]);
        }
        x = new IceSearch();
        x.teller(97, NONE);
        x.teller(89, 0);
        x.teller(55, 1);
        x.find(0, 0, 0, 0, 0, 2, 0);
        due("89 hundredths of 55, cut, and 97 of these", x.found(0, 7), 46);
    }

    private void testDoubtLimit() {
        says(TERMS, "A find is told DOUBTED, or no more, up to 200 times in all;");
        IceSearch x = new IceSearch();
        x.find(0, 0, 0, 0, 0, NONE, 0);
        x.find(0, 0, 0, 0, 0, NONE, 0);
        for (int i = 0; i < 200; i++) {
            due("the time " + (i + 1), x.doubt(i % 2, i % 4 < 2), true);
        }
        due("the 201st", x.doubt(0, true), false);
        due("the 201st, of another", x.doubt(1, true), false);
        due("DOUBTED TODAY", x.count(2), 0);
    }

    private void testDoubtLastTold() {
        says(TERMS, "in all; of those KNOWN the last one told holds.");
        IceSearch x = new IceSearch();
        x.find(0, 0, 0, 0, 0, NONE, 0);
        x.day(2);
        x.doubt(0, true);
        x.day(4);
        x.doubt(0, false);
        x.day(6);
        x.doubt(0, true);
        x.doubt(0, false);
        x.day(8);
        x.doubt(0, true);
        x.doubt(0, false);
        x.doubt(0, true);
        int[] want = {1, 1, 0, 0, 1, 1, 1, 1, 0, 0};
        for (int day = 0; day < want.length; day++) {
            due("KEPT on DAY " + day, x.kept(day, 0), want[day]);
        }
    }

    private void testNew() {
        says("Promise 1", "No FINDS, SHIPS, RULES;");
        IceSearch x = new IceSearch();
        due("finds", x.count(1), 0);
        due("found(0, 0)", x.found(0, 0), NONE_SUCH);
        due("lead of a find", x.lead(0, 0, 0, 0), NO_LEAD);
        due("SHIPS", x.count(5), 0);
        due("trip(0, 0)", x.trip(0, 0), NONE);
        due("best(0)", x.best(0), NONE);
        due("RULES", x.count(6), 0);
        due("RULES BESIDE", x.count(14), 0);
        due("tried(0, 0)", x.tried(0, 0), NONE_SUCH);
        due("fault()", x.fault(), NONE);
        due("the tape", x.count(13), 0);
        due("the ROW", x.count(10), 0);
        says("Promise 1", "all CELLS sea;");
        due("land", x.count(8), 0);
        due("HOME CELLS", x.count(9), 0);
        x.set(15, 50);
        due("they may come anywhere", x.ends(0), 256);
        says("Promise 1", "the LOST at CELL 0 with 1 MAN, FOOD 0, ASHORE NONE.");
        x = new IceSearch();
        due("at CELL 0", x.would(0, 0), 0);
        due("1 MAN", x.would(0, 1), 1);
        due("FOOD 0", x.would(0, 2), 0);
        due("alive(1)", x.alive(1), 0);
        due("land where they are", x.land(0, true), false);
        x.land(1, true);
        x.set(119, 50);
        due("ASHORE NONE", x.at(0, 1, 119), 0);
    }

    private void testPromisedDay() {
        says("Promise 2", "TODAY becomes a later DAY: true;");
        IceSearch x = new IceSearch();
        int[] days = {1, 2, 10, 998, 999};
        for (int day : days) {
            due("day(" + day + ")", x.day(day), true);
            due("TODAY", x.count(0), day);
        }
        due("a new one's first", new IceSearch().day(999), true);
        says("Promise 2", "false: it isn't, above 999.");
        x = new IceSearch();
        due("day(0) at first", x.day(0), false);
        x.day(500);
        for (int day : new int[] {MIN, -1, 0, 499, 500, 1000, 1001, MAX}) {
            due("day(" + day + ")", x.day(day), false);
            due("TODAY", x.count(0), 500);
        }
        x.day(999);
        due("day(999) again", x.day(999), false);
        due("day(1000) behind 999", x.day(1000), false);
        due("TODAY", x.count(0), 999);
    }

    private void testPromisedLand() {
        says("Promise 3", "A CELL is land from now on, or sea: true;");
        IceSearch x = lostAt(34, 1);
        due("land", x.land(35, true), true);
        due("land again", x.land(35, true), true);
        due("how many", x.count(8), 1);
        due("at it", x.at(0, 35, 1), 0);
        due("sea", x.land(35, false), true);
        due("sea again", x.land(35, false), true);
        due("how many then", x.count(8), 0);
        due("at it then", x.at(0, 35, 1), 1);
        says("Promise 3", "false: no such CELL, the LOST's.");
        for (int cell : NO_CELLS) {
            due("land(" + cell + ")", x.land(cell, true), false);
        }
        due("the LOST's", x.land(34, true), false);
        due("the LOST's, sea", x.land(34, false), false);
        due("how many", x.count(8), 0);
        x.lost(35, 1, 0, NONE);
        due("no more the LOST's", x.land(34, true), true);
        due("now the LOST's", x.land(35, true), false);
        due("a new one's 0", new IceSearch().land(0, true), false);
    }

    private void testPromisedLost() {
        says("Promise 4", "The LOST: true;");
        IceSearch x = new IceSearch();
        due("the least", x.lost(0, 1, 0, NONE), true);
        due("the greatest", x.lost(255, 200, 99999, 119), true);
        due("CELL", x.would(0, 0), 255);
        due("MEN", x.would(0, 1), 200);
        due("FOOD", x.would(0, 2), 99999);
        says("Promise 4", "false, doing nothing: not as told.");
        x.set(119, 50);
        x.land(254, true);
        x.land(7, true);
        int[][] wrong = {{-1, 1, 0, NONE}, {256, 1, 0, NONE}, {7, 1, 0, NONE}, {3, 0, 0, NONE}, {3, 201, 0, NONE},
            {3, 1, -1, NONE}, {3, 1, 100000, NONE}, {3, 1, 0, -2}, {3, 1, 0, 120}, {MIN, MIN, MIN, MIN},
            {MAX, MAX, MAX, MAX}, {3, MAX, 0, NONE}, {3, 1, MAX, NONE}, {3, 1, 0, MAX}, {3, 1, 0, MIN}};
        for (int[] w : wrong) {
            String call = "lost(" + w[0] + ", " + w[1] + ", " + w[2] + ", " + w[3] + ")";
            due(call, x.lost(w[0], w[1], w[2], w[3]), false);
            due(call + ": CELL", x.at(0, 255, 0), 1);
            due(call + ": MEN", x.alive(0), 200);
            due(call + ": FOOD", x.would(0, 2), 99999 - 119 * 200);
            due(call + ": ASHORE", x.at(0, 254, 118) * 2 + x.at(0, 254, 119), 1);
        }
    }

    private void testPromisedSet() {
        says("Promise 5", "LAST and HOLD: true;");
        IceSearch x = new IceSearch();
        int[][] right = {{0, 0}, {119, 100}, {0, 100}, {119, 0}, {60, 51}};
        for (int[] r : right) {
            due("set(" + r[0] + ", " + r[1] + ")", x.set(r[0], r[1]), true);
            due("LAST", x.count(11), r[0]);
            due("HOLD", x.count(12), r[1]);
        }
        says("Promise 5", "false, doing nothing: not as told.");
        int[][] wrong = {{-1, 7}, {120, 7}, {7, -1}, {7, 101}, {MIN, 7}, {MAX, 7}, {7, MIN}, {7, MAX}, {-1, -1},
            {120, 101}};
        for (int[] w : wrong) {
            due("set(" + w[0] + ", " + w[1] + ")", x.set(w[0], w[1]), false);
            due("LAST", x.count(11), 60);
            due("HOLD", x.count(12), 51);
        }
    }

    private void testPromisedIce() {
        says("Promise 6", "ICE: how many times it was told.");
        IceSearch x = new IceSearch();
        due("the first", x.ice(0, 0, true), 1);
        due("the same again", x.ice(0, 0, true), 2);
        due("open", x.ice(255, 11, false), 3);
        says("Promise 6", "NONE, doing nothing: not as told, 200 were.");
        int[][] wrong = {{-1, 0}, {256, 0}, {0, -1}, {0, 12}, {MIN, MIN}, {MAX, MAX}, {0, MAX}, {0, MIN}};
        for (int[] w : wrong) {
            due("ice(" + w[0] + ", " + w[1] + ", false)", x.ice(w[0], w[1], false), NONE);
        }
        due("told", x.count(3), 3);
        for (int i = 4; i <= 200; i++) {
            x.ice(255, 11, false);
        }
        due("200 were", x.ice(0, 0, false), NONE);
        due("SHUT as before", x.shut(0, 0, 0), 1);
        due("told", x.count(3), 200);
        x.day(1);
        due("200 were, on another DAY, too", x.ice(0, 0, false), NONE);
    }

    private void testPromisedShut() {
        says("Promise 7", "Whether a CELL is SHUT in a YEAR as KNOWN by a DAY (1, 0).");
        IceSearch x = new IceSearch();
        x.day(3);
        x.ice(0, 0, true);
        x.ice(255, 11, true);
        due("on the DAY", x.shut(0, 0, 3), 1);
        due("on the DAY before", x.shut(0, 0, 2), 0);
        due("the last CELL and YEAR", x.shut(255, 11, 999), 1);
        due("another YEAR", x.shut(255, 10, 999), 0);
        says("Promise 7", "NONE: none such.");
        int[][] wrong = {{-1, 0, 3}, {256, 0, 3}, {0, -1, 3}, {0, 12, 3}, {0, 0, -1}, {0, 0, 1000}, {MIN, 0, 3},
            {MAX, 0, 3}, {0, MIN, 3}, {0, MAX, 3}, {0, 0, MIN}, {0, 0, MAX}};
        for (int[] w : wrong) {
            due("shut(" + w[0] + ", " + w[1] + ", " + w[2] + ")", x.shut(w[0], w[1], w[2]), NONE);
        }
    }

    private void testPromisedTeller() {
        says("Promise 8", "A TELLER: its number.");
        IceSearch x = new IceSearch();
        due("the first", x.teller(0, NONE), 0);
        due("the second", x.teller(100, 0), 1);
        says("Promise 8", "NONE, doing nothing: not as told, 10 are there.");
        int[][] wrong = {{-1, NONE}, {101, NONE}, {50, -2}, {50, 2}, {50, 3}, {MIN, NONE}, {MAX, NONE}, {50, MIN},
            {50, MAX}};
        for (int[] w : wrong) {
            due("teller(" + w[0] + ", " + w[1] + ")", x.teller(w[0], w[1]), NONE);
        }
        due("TELLERS", x.count(4), 2);
        for (int i = 2; i < 10; i++) {
            due("TELLER " + i, x.teller(50, i - 1), i);
        }
        due("10 are there", x.teller(50, NONE), NONE);
        due("10 are there, told by the last", x.teller(50, 9), NONE);
        due("TELLERS", x.count(4), 10);
    }

    private void testPromisedFind() {
        says("Promise 9", "A find: its number.");
        IceSearch x = new IceSearch();
        x.teller(100, NONE);
        due("the first", x.find(0, 0, 0, 0, 0, NONE, 0), 0);
        due("a is b", x.find(1, 255, 119, 119, 2, 0, 9), 1);
        due("a below b", x.find(4, 7, 0, 119, 100, NONE, 0), 2);
        says("Promise 9", "NONE, doing nothing: not as told (a above b, too), 40 are there.");
        due("a above b", x.find(0, 7, 6, 5, 0, NONE, 0), NONE);
        due("a above b by all", x.find(0, 7, 119, 0, 0, NONE, 0), NONE);
        int[][] wrong = {{-1, 7, 5, 6, 0, NONE, 0}, {5, 7, 5, 6, 1, NONE, 0}, {0, -1, 5, 6, 0, NONE, 0},
            {0, 256, 5, 6, 0, NONE, 0}, {0, 7, -1, 6, 0, NONE, 0}, {0, 7, 5, 120, 0, NONE, 0},
            {0, 7, 5, 6, -1, NONE, 0}, {0, 7, 5, 6, 1, NONE, 0}, {1, 7, 5, 6, 3, NONE, 0}, {2, 7, 5, 6, 6, NONE, 0},
            {3, 7, 5, 6, 16, NONE, 0}, {4, 7, 5, 6, 0, NONE, 0}, {4, 7, 5, 6, 101, NONE, 0}, {0, 7, 5, 6, 0, -2, 0},
            {0, 7, 5, 6, 0, 1, 0}, {0, 7, 5, 6, 0, NONE, -1}, {0, 7, 5, 6, 0, NONE, 10},
            {MIN, MIN, MIN, MIN, MIN, MIN, MIN}, {MAX, MAX, MAX, MAX, MAX, MAX, MAX}};
        for (int[] w : wrong) {
            due("find" + Arrays.toString(w), x.find(w[0], w[1], w[2], w[3], w[4], w[5], w[6]), NONE);
        }
        due("finds", x.count(1), 3);
        for (int i = 3; i < 40; i++) {
            due("find " + i, x.find(0, 7, 5, 6, 0, NONE, 0), i);
        }
        due("40 are there", x.find(0, 7, 5, 6, 0, NONE, 0), NONE);
        due("finds", x.count(1), 40);
        due("no find 40", x.found(40, 0), NONE_SUCH);
    }

    private void testPromisedDoubt() {
        says("Promise 10", "A find is DOUBTED, or no more: true;");
        IceSearch x = new IceSearch();
        x.find(0, 0, 0, 0, 0, NONE, 0);
        x.find(0, 0, 0, 0, 0, NONE, 0);
        due("DOUBTED", x.doubt(1, true), true);
        due("so it is", x.found(1, 9), 1);
        due("the other isn't", x.found(0, 9), 0);
        due("no more", x.doubt(1, false), true);
        due("no more it is", x.found(1, 9), 0);
        says("Promise 10", "false, doing nothing: none such, it's so TODAY, 200 times were told.");
        for (int find : new int[] {MIN, -1, 2, 40, MAX}) {
            due("doubt(" + find + ", true)", x.doubt(find, true), false);
            due("doubt(" + find + ", false)", x.doubt(find, false), false);
        }
        due("never doubted", x.doubt(0, false), false);
        due("no more doubted", x.doubt(1, false), false);
        x.doubt(0, true);
        due("doubted", x.doubt(0, true), false);
        x.day(1);
        due("doubted since", x.doubt(0, true), false);
        // Three were told; those refused don't count.
        for (int i = 3; i < 200; i++) {
            due("the time " + (i + 1), x.doubt(0, i % 2 == 0), true);
        }
        due("200 times were told", x.doubt(0, x.found(0, 9) == 0), false);
        due("200 times, of the other", x.doubt(1, true), false);
        due("as it was", x.found(0, 9), 0);
    }

    private void testPromisedFound() {
        says("Promise 11", "Of a find: 0 KIND, 1 CELL, 2 a, 3 b, 4 n, 5 TELLER, 6 FINDER, 7 TRUST, 8 DAY told, "
            + "9 whether it's DOUBTED TODAY (1).");
        IceSearch x = new IceSearch();
        x.teller(61, NONE);
        x.find(0, 0, 0, 0, 0, NONE, 0);
        x.day(999);
        x.find(4, 255, 118, 119, 100, 0, 9);
        x.doubt(1, true);
        int[][] want = {{0, 0, 0, 0, 0, NONE, 0, 100, 0, 0}, {4, 255, 118, 119, 100, 0, 9, 61, 999, 1}};
        for (int find = 0; find < 2; find++) {
            for (int what = 0; what < 10; what++) {
                due("found(" + find + ", " + what + ")", x.found(find, what), want[find][what]);
            }
        }
        says("Promise 11", "-2: none such.");
        for (int find : new int[] {MIN, -1, 2, 39, 40, MAX}) {
            for (int what = 0; what < 10; what++) {
                due("found(" + find + ", " + what + ")", x.found(find, what), NONE_SUCH);
            }
        }
        for (int what : new int[] {MIN, -1, 10, 11, MAX}) {
            due("found(0, " + what + ")", x.found(0, what), NONE_SUCH);
        }
    }

    private void testPromisedMove() {
        says("Promise 18", "A move behind the told ROW: how many.");
        IceSearch x = lostAt(34, 0);
        for (int to = 0; to <= 8; to++) {
            due("move " + to, x.move(to), to + 1);
        }
        says("Promise 18", "NONE, doing nothing: not as told, 119 are there.");
        for (int to : new int[] {MIN, -1, 9, 10, MAX}) {
            due("move " + to, x.move(to), NONE);
            due("moves", x.count(10), 9);
        }
        for (int i = 10; i <= 119; i++) {
            due("the move " + i, x.move(0), i);
        }
        due("the 120th", x.move(0), NONE);
        due("moves", x.count(10), 119);
        due("judged as it was", x.judge(0), NONE);
    }

    private void testPromisedClear() {
        says("Promise 19", "The told ROW is empty: how many moves it had.");
        IceSearch x = lostAt(0, 0);
        due("none", x.clear(), 0);
        x.move(7);
        due("out over the west", x.judge(0), 1);
        due("one", x.clear(), 1);
        due("none then", x.clear(), 0);
        due("judged from the start", x.judge(0), NONE);
        for (int i = 0; i < 119; i++) {
            x.move(0);
        }
        due("all", x.clear(), 119);
        due("room again", x.move(3), 1);
    }

    private void testPromisedShip() {
        says("Promise 25", "A SHIP: its number.");
        IceSearch x = new IceSearch();
        due("the least", x.ship(0, 0, 1), 0);
        due("the greatest", x.ship(255, 20, 100), 1);
        says("Promise 25", "NONE, doing nothing: not as told, 4 are there.");
        int[][] wrong = {{-1, 5, 5}, {256, 5, 5}, {5, -1, 5}, {5, 21, 5}, {5, 5, 0}, {5, 5, 101}, {MIN, 5, 5},
            {MAX, 5, 5}, {5, MIN, 5}, {5, MAX, 5}, {5, 5, MIN}, {5, 5, MAX}, {5, 5, -1}};
        for (int[] w : wrong) {
            due("ship(" + w[0] + ", " + w[1] + ", " + w[2] + ")", x.ship(w[0], w[1], w[2]), NONE);
            due("SHIPS", x.count(5), 2);
        }
        due("the third", x.ship(7, 1, 1), 2);
        due("the fourth", x.ship(7, 1, 1), 3);
        due("4 are there", x.ship(7, 1, 1), NONE);
        due("SHIPS", x.count(5), 4);
        due("no SHIP 4", x.trip(4, 7), NONE);
    }

    private void testPromisedFeed() {
        says("Promise 28", "Twenty bytes come behind those on the tape, of each number the highest first: how many "
            + "there are.");
        IceSearch x = new IceSearch();
        due("the first", x.feed(0x73746179, 0x3b6c6561, 0x76653b67, 0x6f206e6f, 0x7274683b), 20);
        due("stay;leave;go north;", x.rules(20), 0);
        due("three statements", x.count(7), 3);
        for (int k = 0; k < 20; k++) {
            int[] n = new int[5];
            for (int i = 0; i < 5; i++) {
                n[i] = k / 4 == i ? BLANKS & ~(255 << 24 - 8 * (k % 4)) | 0xF3 << 24 - 8 * (k % 4) : BLANKS;
            }
            due("blanks", x.feed(BLANKS, BLANKS, BLANKS, BLANKS, BLANKS), 20);
            due("a strange byte", x.feed(n[0], n[1], n[2], n[3], n[4]), 40);
            due("a FAULT", x.rules(40), NONE);
            due("its place", x.fault(), 20 + k);
        }
        due("MIN, MAX, -1", x.feed(MIN, MAX, -1, 0, 1), 20);
        says("Promise 28", "NONE, doing nothing: there would be more than 700.");
        x = new IceSearch();
        for (int i = 1; i <= 35; i++) {
            due("feed " + i, x.feed(BLANKS, BLANKS, BLANKS, BLANKS, i < 35 ? BLANKS : 0x20202078), 20 * i);
        }
        due("the 36th", x.feed(0, 0, 0, 0, 0), NONE);
        due("on the tape", x.count(13), 700);
        due("n 701", x.rules(701), NONE_SUCH);
        due("all are as they were", x.rules(700), NONE);
        due("the last byte", x.fault(), 699);
        due("room again", x.feed(0, 0, 0, 0, 0), 20);
    }

    private void testPromisedHome() {
        says("Promise 32", "A CELL is a HOME CELL, or no more: true;");
        IceSearch x = lostAt(34, 0);
        for (int i = 0; i < 2; i++) {
            due("a HOME CELL", x.home(34, true), true);
            due("how many", x.count(9), 1);
        }
        due("they're there", x.would(0, 4), 0);
        x.land(255, true);
        due("land may be one", x.home(255, true), true);
        due("how many", x.count(9), 2);
        for (int i = 0; i < 2; i++) {
            due("no more", x.home(34, false), true);
            due("how many then", x.count(9), 1);
        }
        due("not SAVED", x.would(0, 4), NONE);
        due("0, that never was", x.home(0, false), true);
        says("Promise 32", "false: no such CELL.");
        for (int cell : NO_CELLS) {
            due("home(" + cell + ", true)", x.home(cell, true), false);
            due("home(" + cell + ", false)", x.home(cell, false), false);
        }
        due("how many", x.count(9), 1);
    }

    private void testPromisedCount() {
        IceSearch x = lostAt(34, 0);
        says("Promise 37", "0 TODAY,");
        x.day(77);
        due("count(0)", x.count(0), 77);
        says("Promise 37", "1 finds,");
        x.find(0, 0, 0, 0, 0, NONE, 0);
        x.find(4, 0, 0, 0, 1, NONE, 0);
        due("count(1)", x.count(1), 2);
        says("Promise 37", "2 of these DOUBTED TODAY,");
        x.doubt(0, true);
        due("count(2)", x.count(2), 1);
        x.doubt(1, true);
        due("both", x.count(2), 2);
        x.day(78);
        x.doubt(0, false);
        due("no more", x.count(2), 1);
        due("finds, DOUBTED or not", x.count(1), 2);
        says("Promise 37", "3 ICE told,");
        x.ice(1, 1, true);
        x.ice(1, 1, false);
        due("count(3)", x.count(3), 2);
        says("Promise 37", "4 TELLERS,");
        x.teller(1, NONE);
        due("count(4)", x.count(4), 1);
        says("Promise 37", "5 SHIPS,");
        x.ship(1, 1, 1);
        due("count(5)", x.count(5), 1);
        says("Promise 37", "6 RULES,");
        due("none", x.count(6), 0);
        Texts.rules(x, "stay;leave;");
        due("count(6)", x.count(6), 1);
        says("Promise 37", "7 statements of the last,");
        due("count(7)", x.count(7), 2);
        Texts.rules(x, "pay 1 for told;");
        due("of the second", x.count(7), 1);
        Texts.rules(x, "x");
        Texts.beside(x, "stay;stay;stay;");
        due("not of a FAULT, nor BESIDE", x.count(7), 1);
        x.rules(0);
        due("of the third", x.count(7), 0);
        due("count(6)", x.count(6), 3);
        due("without RULES", new IceSearch().count(7), 0);
        testPromisedCountRest(x);
    }

    private void testPromisedCountRest(IceSearch x) {
        says("Promise 37", "8 CELLS of land,");
        x.land(1, true);
        x.land(1, true);
        x.land(2, true);
        due("count(8)", x.count(8), 2);
        says("Promise 37", "9 HOME CELLS,");
        x.home(1, true);
        x.home(1, true);
        due("count(9)", x.count(9), 1);
        says("Promise 37", "10 moves of the told ROW,");
        x.move(0);
        x.move(9);
        due("count(10)", x.count(10), 1);
        says("Promise 37", "11 LAST,");
        x.set(19, 61);
        due("count(11)", x.count(11), 19);
        says("Promise 37", "12 HOLD,");
        due("count(12)", x.count(12), 61);
        due("at first", new IceSearch().count(12), 50);
        says("Promise 37", "13 bytes on the tape,");
        due("none", x.count(13), 0);
        x.feed(0, 0, 0, 0, 0);
        due("count(13)", x.count(13), 20);
        says("Promise 37", "14 whether RULES are beside (1).");
        due("count(14)", x.count(14), 1);
        due("at first", new IceSearch().count(14), 0);
        x.beside(20);
        due("a FAULT", x.count(14), 0);
        says("Promise 37", "NONE for others.");
        for (int what : new int[] {MIN, -2, -1, 15, 16, 100, MAX}) {
            due("count(" + what + ")", x.count(what), NONE);
        }
    }

    private void testUse() {
        says("What it is", "An object is used for at most 512 calls after it has been made;");
        IceSearch x = new IceSearch();
        for (int call = 1; call <= 512; call++) {
            int i = (call - 1) / 2;
            if (call % 2 == 1) {
                due("the call " + call, x.lost(i, 1 + i % 200, i, NONE), true);
            } else {
                due("the call " + call, x.alive(0), 1 + i % 200);
            }
        }
    }

    private void testConstants() {
        says("The constants", "The constants: `NONE = -1`: There is none.");
        due("NONE", IceSearch.NONE, -1);
    }
}
