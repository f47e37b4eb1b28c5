/** What's KEPT, part 2 of the terms, and the promises 12 to 17, 20 and 21. */
final class SentencesOfWays extends Sentences {
    private static final String TERMS = "Terms 2";

    SentencesOfWays(Doc doc, Check check) {
        super(doc, check);
    }

    @Override
    void testAll() {
        testKeptKnown();
        testKeptHold();
        testKeptSix();
        testKeptNothing();
        testWays();
        testFits();
        testMost();
        testLeastSet();
        testAt();
        testSure();
        testEnds();
        testMoves();
        testKthMove();
        testJudgedSteps();
        testJudgedStart();
        testJudgedFinds();
        testJudgedNone();
        testAlive();
        testEating();
        testDying();
        testPromisedKept();
        testPromisedFits();
        testPromisedMost();
        testPromisedAt();
        testPromisedSure();
        testPromisedEnds();
        testPromisedJudge();
        testPromisedAlive();
    }

    private static void paper(IceSearch x, int cell, int step) {
        x.find(0, cell, step, step, 0, NONE, 0);
    }

    private static void nothing(IceSearch x, int cell, int from, int to) {
        x.find(4, cell, from, to, 100, NONE, 0);
    }

    private void testKeptKnown() {
        says("Terms 1", "KEPT as KNOWN by a DAY: of the finds KNOWN by it that aren't DOUBTED as KNOWN by it,");
        IceSearch x = lostAt(34, 5);
        paper(x, 34, 0);
        nothing(x, 35, 0, 5);
        x.day(3);
        paper(x, 34, 1);
        nothing(x, 35, 0, 5);
        x.doubt(0, true);
        x.doubt(1, true);
        x.day(6);
        x.doubt(0, false);
        int[][] want = {{1, 0, 1}, {1, 0, 1}, {1, 0, 1}, {1, 2, 1}, {1, 2, 1}, {1, 2, 1}, {2, 0, 1}, {2, 0, 1}};
        for (int day = 0; day < want.length; day++) {
            due("how many on DAY " + day, x.kept(day, 0), want[day][0]);
            due("the first on DAY " + day, x.kept(day, 10), want[day][1]);
            due("of KIND 4 on DAY " + day, x.kept(day, 1), want[day][2]);
        }
    }

    private void testKeptHold() {
        says("Terms 1", "and of which the TRUST is at least HOLD (0 to 100; 50 at first):");
        IceSearch x = new IceSearch();
        int[] trusts = {0, 49, 50, 51, 100};
        for (int i = 0; i < trusts.length; i++) {
            x.teller(trusts[i], NONE);
            x.find(0, 0, 0, 0, 0, i, 0);
            x.find(4, 1, 0, 0, 100, i, 0);
        }
        due("HOLD at first", x.count(12), 50);
        due("at first", x.kept(0, 0), 3);
        due("at first, of KIND 4", x.kept(0, 1), 3);
        due("the first at first", x.kept(0, 10), 4);
        for (int hold : new int[] {MIN, -1, 101, MAX}) {
            due("HOLD " + hold, x.set(0, hold), false);
        }
        int[][] want = {{0, 5}, {1, 4}, {49, 4}, {50, 3}, {51, 2}, {52, 1}, {100, 1}};
        for (int[] w : want) {
            due("HOLD " + w[0], x.set(0, w[0]), true);
            due("KEPT", x.kept(0, 0), w[1]);
            due("of KIND 4", x.kept(0, 1), w[1]);
        }
    }

    private void testKeptSix() {
        says("Terms 1", "of KIND 0 to 3 the first six by numbers,");
        IceSearch x = lostAt(34, 1);
        for (int i = 0; i < 6; i++) {
            due("before " + i, x.kept(0, 0), i);
            x.find(i % 4, 34, 0, 0, 0, NONE, 0);
        }
        due("six", x.kept(0, 0), 6);
        paper(x, 99, 0);
        due("the seventh isn't KEPT", x.kept(0, 0), 6);
        due("it binds no WAY", x.fits(0), 1);
        due("nor a ROW", x.judge(0), NONE);
        due("nor does MOST count it", x.most(0, 1), 63);
        x.doubt(3, true);
        due("six again", x.kept(0, 0), 6);
        due("the fourth is find 4", x.kept(0, 13), 4);
        due("the sixth is find 6", x.kept(0, 15), 6);
        due("now it binds", x.fits(0), 0);
        due("and a ROW", x.judge(0), 1006);
        due("and MOST", x.most(0, 1), 31);
    }

    private void testKeptNothing() {
        says("Terms 1", "of KIND 4 all with n 100.");
        IceSearch x = lostAt(34, 1);
        for (int i = 0; i < 40; i++) {
            x.find(4, 100 + i, 0, 1, i == 20 || i == 30 ? 99 : 100, NONE, 0);
        }
        due("all with n 100", x.kept(0, 1), 38);
        due("none of the others", x.kept(0, 0), 0);
        x = lostAt(34, 1);
        for (int i = 0; i < 39; i++) {
            nothing(x, 200, 1, 1);
        }
        nothing(x, 35, 1, 1);
        due("40", x.kept(0, 1), 40);
        due("the last one binds", x.at(0, 35, 1), 0);
    }

    private void testWays() {
        says(TERMS, "WAYS as KNOWN by a DAY: all that GO so and MEET all KEPT ones of KIND 4.");
        IceSearch x = seaAt(2, 34, 35, 36);
        due("three CELLS", x.ends(0), 3);
        due("most of none", x.most(0, 0), 0);
        x.day(5);
        nothing(x, 34, 1, 1);
        x.day(6);
        nothing(x, 35, 1, 1);
        due("by DAY 4", x.at(4, 34, 1), 1);
        due("by DAY 5", x.at(5, 34, 1), 0);
        due("by DAY 5 there are WAYS", x.most(5, 0), 0);
        due("by DAY 6 there's none", x.most(6, 0), NONE);
        due("by DAY 6 none fits", x.fits(6), 0);
        due("by DAY 6 none ends", x.ends(6), 0);
    }

    private void testFits() {
        says(TERMS, "FITS: whether one MEETS all KEPT ones.");
        IceSearch x = seaAt(3, 34, 35, 36);
        due("none KEPT", x.fits(0), 1);
        paper(x, 36, 2);
        paper(x, 34, 3);
        due("each alone", x.most(0, 0), 1);
        due("not both", x.fits(0), 0);
        x.doubt(0, true);
        due("one", x.fits(0), 1);
        nothing(x, 34, 3, 3);
        due("against one of KIND 4", x.fits(0), 0);
    }

    private void testMost() {
        says(TERMS, "MOST: how many of the KEPT ones of KIND 0 to 3 a WAY can MEET at most;");
        IceSearch x = lostAt(34, 6);
        int[] cells = {34, 35, 36, 37, 38, 39};
        for (int i = 0; i < 6; i++) {
            paper(x, cells[i], i);
            due("of " + (i + 1), x.most(0, 0), i + 1);
            due("the set", x.most(0, 1), (1 << i + 1) - 1);
        }
        nothing(x, 37, 3, 3);
        due("without the fourth", x.most(0, 0), 5);
        due("its set", x.most(0, 1), 63 - 8);
        x = lostAt(34, 0);
        paper(x, 35, 0);
        due("none of one", x.most(0, 0), 0);
        due("the empty set", x.most(0, 1), 0);
        for (int start : new int[] {0, 255}) {
            x = lostAt(start, 0);
            due("none at " + start, x.most(0, 0), 0);
            paper(x, start, 0);
            due("one at " + start, x.most(0, 0), 1);
        }
    }

    private void testLeastSet() {
        says(TERMS, "of all sets of so many that one can MEET the one that is least as a number (bit i: the i-th KEPT "
            + "one).");
        IceSearch x = lostAt(34, 1);
        paper(x, 33, 1);
        paper(x, 35, 1);
        paper(x, 18, 1);
        due("one of three", x.most(0, 0), 1);
        due("the first", x.most(0, 1), 1);
        x.find(2, 36, 1, 1, 1, NONE, 0);
        due("35 alone meets two", x.most(0, 0), 2);
        due("the second and the fourth", x.most(0, 1), 10);
        x.find(2, 17, 1, 1, 1, NONE, 0);
        due("33 and 18 meet two, too", x.most(0, 0), 2);
        due("of 10001, 10100 and 01010 the last", x.most(0, 1), 10);
        x.doubt(0, true);
        due("bits are those of KEPT ones", x.most(0, 1), 5);
    }

    private void testAt() {
        says(TERMS, "AT: whether a WAY that MEETS all KEPT ones is at a CELL on a STEP.");
        IceSearch x = seaAt(4, 34, 35, 36);
        paper(x, 36, 3);
        int[][] want = {{1, 0, 0}, {1, 1, 0}, {0, 1, 1}, {0, 0, 1}, {0, 1, 1}};
        for (int step = 0; step <= 4; step++) {
            for (int i = 0; i < 3; i++) {
                due("at " + (34 + i) + " on " + step, x.at(0, 34 + i, step), want[step][i]);
            }
        }
        due("at land", x.at(0, 37, 4), 0);
    }

    private void testSure() {
        says(TERMS, "SURE: whether there's such a WAY, and each of these is at a CELL on some STEP.");
        IceSearch x = seaAt(4, 34, 35, 36, 19);
        due("the start", x.sure(0, 34), 1);
        due("with no find", x.sure(0, 36), 0);
        paper(x, 36, 4);
        due("the end", x.sure(0, 36), 1);
        due("35 or 19", x.sure(0, 35), 0);
        due("19 or 35", x.sure(0, 19), 0);
        x.land(19, true);
        due("35 on STEP 1, 2 or 3", x.sure(0, 35), 1);
        due("not on STEP 3 by each", x.at(0, 36, 3), 1);
        x.land(35, true);
        due("no such WAY: the start", x.sure(0, 34), 0);
        due("no such WAY: the end", x.sure(0, 36), 0);
    }

    private void testEnds() {
        says(TERMS, "ENDS: at how many CELLS such WAYS end.");
        IceSearch x = lostAt(34, 0);
        due("one with LAST 0", x.ends(0), 1);
        x.set(119, 50);
        due("all", x.ends(0), 256);
        paper(x, 255, 117);
        due("those two from 255", x.ends(0), 9);
        paper(x, 0, 118);
        due("none", x.ends(0), 0);
    }

    private void testMoves() {
        says(TERMS, "A told ROW (moves 0 to 8: 0 stays, 1 north, 2 north-east, and on round by the sun to 8 "
            + "north-west;");
        int[] cells = {119, 103, 104, 120, 136, 135, 134, 118, 102};
        for (int to = 0; to <= 8; to++) {
            for (int other = 0; other <= 8; other++) {
                IceSearch x = lostAt(119, 0);
                x.move(to);
                paper(x, cells[other], 1);
                due("move " + to + " to " + cells[other], x.judge(0), to == other ? NONE : 1000);
            }
        }
        for (int to : new int[] {MIN, -1, 9, MAX}) {
            due("move " + to, new IceSearch().move(to), NONE);
        }
    }

    private void testKthMove() {
        says(TERMS, "the k-th move from STEP k to k and 1; up to 119)");
        IceSearch x = lostAt(34, 0);
        for (int i = 0; i < 119; i++) {
            due("the move " + i, x.move(i == 0 ? 3 : 0), i + 1);
        }
        due("one more", x.move(0), NONE);
        paper(x, 35, 1);
        due("the move 0 leads to STEP 1", x.judge(0), NONE);
        paper(x, 35, 119);
        due("the move 118 leads to STEP 119", x.judge(0), NONE);
        nothing(x, 35, 119, 119);
        due("STEP 119 is judged", x.judge(0), 119);
        paper(x, 34, 1);
        x.doubt(2, true);
        due("not there on STEP 1", x.judge(0), 1003);
    }

    private void testJudgedSteps() {
        says(TERMS, "is JUDGED: the first STEP on which it doesn't GO so or stands against a KEPT find of KIND 4, or "
            + "it leaves "
            + "the CELLS;");
        IceSearch x = lostAt(0, 0);
        x.day(1);
        x.ice(3, 0, true);
        x.land(19, true);
        nothing(x, 2, 4, 5);
        move(x, 3, 3, 3, 3);
        due("SHUT", x.judge(1), 3);
        due("not SHUT by DAY 0", x.judge(0), NONE);
        move(x, 3, 3, 4, 3);
        due("land", x.judge(0), 3);
        move(x, 3, 3, 0, 0, 0, 0);
        due("nothing was there on STEP 4", x.judge(1), 4);
        due("not KNOWN by DAY 0", x.judge(0), NONE);
        move(x, 3, 3, 0, 7);
        due("gone before", x.judge(1), NONE);
        move(x, 3, 3, 7, 0, 0, 3);
        due("there behind it", x.judge(1), NONE);
        move(x, 3, 3, 7, 0, 3, 3);
        due("the first of two: 5, then SHUT on 6", x.judge(1), 5);
        for (int to : new int[] {1, 2, 6, 7, 8}) {
            move(x, 0, to, 0);
            due("leaves by the move " + to, x.judge(1), 2);
        }
        move(x, 5, 5, 5, 5, 5, 5, 5, 5, 5, 5, 5, 5, 5, 5, 5, 5);
        due("leaves over the south", x.judge(1), 16);
        move(x, 1, 3, 3, 3);
        due("leaving counts before what comes", x.judge(1), 1);
        x.set(119, 50);
        x.lost(0, 1, 0, 3);
        move(x, 3, 3, 3, 3);
        due("SHUT, but ASHORE", x.judge(1), NONE);
        move(x, 0, 0, 1, 0);
        due("leaves though ASHORE", x.judge(1), 3);
    }

    private void testJudgedStart() {
        says(TERMS, "is JUDGED: the first STEP on which it doesn't GO so or stands against a KEPT find of KIND 4");
        IceSearch x = lostAt(34, 0);
        nothing(x, 34, 0, 0);
        due("an empty ROW stands on STEP 0", x.judge(0), 0);
        x.move(1);
        due("STEP 0 comes before all", x.judge(0), 0);
        x.doubt(0, true);
        x.find(4, 34, 0, 0, 99, NONE, 0);
        due("with n 99 it isn't KEPT", x.judge(0), NONE);
        nothing(x, 18, 2, 2);
        due("behind its own last STEP", x.judge(0), NONE);
        x.move(0);
        due("by its own last STEP", x.judge(0), 2);
    }

    private void testJudgedFinds() {
        says(TERMS, "else the first KEPT find of KIND 0 to 3 (1,000 and its number) that it doesn't MEET by its own "
            + "last STEP;");
        IceSearch x = lostAt(34, 0);
        nothing(x, 200, 0, 9);
        x.find(3, 44, 0, 0, 9, NONE, 0);
        x.find(1, 37, 2, 4, 1, NONE, 0);
        due("FAR 10 with n 9", x.judge(0), 1001);
        x.doubt(1, true);
        move(x, 3);
        due("no STEP of it yet", x.judge(0), 1002);
        move(x, 3, 3);
        due("on a, at most n", x.judge(0), NONE);
        move(x, 3, 0, 0, 3);
        due("on b, at most n", x.judge(0), NONE);
        move(x, 3, 0, 0, 0, 3);
        due("behind b", x.judge(0), 1002);
        move(x, 3, 0, 0, 3, 7, 7);
        due("met, then gone", x.judge(0), NONE);
        paper(x, 0, 0);
        for (int i = 4; i < 40; i++) {
            paper(x, 34, 0);
        }
        due("find 3", x.judge(0), 1003);
        x.doubt(3, true);
        due("the six first are met", x.judge(0), NONE);
        x = lostAt(34, 0);
        x.teller(1, NONE);
        for (int i = 0; i < 39; i++) {
            x.find(0, 0, 0, 0, 0, 0, 0);
        }
        paper(x, 0, 0);
        due("find 39", x.judge(0), 1039);
    }

    private void testJudgedNone() {
        says(TERMS, "(1,000 and its number) that it doesn't MEET by its own last STEP; NONE.");
        IceSearch x = lostAt(34, 0);
        due("an empty ROW, nothing told", x.judge(0), NONE);
        paper(x, 34, 0);
        due("met on STEP 0", x.judge(0), NONE);
        x.move(4);
        due("met though gone", x.judge(0), NONE);
    }

    private void testAlive() {
        says(TERMS, "ALIVE on a STEP: MEN;");
        IceSearch x = new IceSearch();
        x.lost(0, 200, 0, NONE);
        due("on STEP 0 none dies", x.alive(0), 200);
        x.lost(0, 1, 0, NONE);
        due("1 MAN", x.alive(0), 1);
        due("whatever LAST is", x.alive(119), 0);
    }

    private void testEating() {
        says(TERMS, "with each STEP from 1 on, those who live EAT one FOOD each;");
        IceSearch x = new IceSearch();
        x.set(3, 50);
        int[] men = {10, 10, 10, 8};
        int[] food = {30, 20, 10, 0};
        x.lost(0, 10, 29, NONE);
        for (int step = 0; step <= 3; step++) {
            due("29 for ten, STEP " + step, x.alive(step), men[step]);
        }
        x.lost(0, 10, 30, NONE);
        for (int step = 0; step <= 3; step++) {
            x.set(step, 50);
            due("30 for ten, STEP " + step, x.alive(step), 10);
            due("FOOD on STEP " + step, x.would(0, 2), food[step]);
        }
        due("on STEP 4 there's none", x.alive(4), 8);
        x.lost(0, 20, 39, NONE);
        x.set(2, 50);
        due("17 live", x.would(0, 1), 17);
        x.lost(0, 200, 23800, NONE);
        due("119 times 200", x.alive(119), 200);
        x.lost(0, 200, 23799, NONE);
        due("one less", x.alive(119), 179);
    }

    private void testDying() {
        says(TERMS, "where there's less than that FOOD is 0 and a tenth of them (cut, and 1) die.");
        int[][] want = {{1, 0}, {2, 1}, {9, 8}, {10, 8}, {11, 9}, {19, 17}, {20, 17}, {99, 89}, {100, 89}, {199, 179},
            {200, 179}};
        for (int[] w : want) {
            IceSearch x = new IceSearch();
            x.set(1, 50);
            x.lost(0, w[0], w[0] - 1, NONE);
            due(w[0] + " MEN, FOOD for one less", x.alive(1), w[1]);
            due("FOOD", x.would(0, 2), 0);
            x.lost(0, w[0], w[0], NONE);
            due(w[0] + " MEN, FOOD for all", x.alive(1), w[0]);
            due("FOOD left", x.would(0, 2), 0);
            x.lost(0, w[0], w[0] + 1, NONE);
            due("FOOD left of one more", x.would(0, 2), 1);
        }
        IceSearch x = new IceSearch();
        x.lost(0, 3, 0, NONE);
        int[] left = {3, 2, 1, 0, 0, 0};
        for (int step = 0; step < left.length; step++) {
            due("three without FOOD on " + step, x.alive(step), left[step]);
        }
    }

    private void testPromisedKept() {
        says("Promise 12", "KEPT as KNOWN by a DAY: how many of KIND 0 to 3 (what 0), of KIND 4 (1), 10 + i the i-th "
            + "of the first "
            + "(its number).");
        IceSearch x = new IceSearch();
        due("none", x.kept(0, 0), 0);
        due("none of KIND 4", x.kept(0, 1), 0);
        nothing(x, 1, 0, 0);
        paper(x, 1, 0);
        nothing(x, 1, 0, 0);
        paper(x, 1, 0);
        nothing(x, 1, 0, 0);
        due("how many", x.kept(0, 0), 2);
        due("of KIND 4", x.kept(0, 1), 3);
        due("the first", x.kept(0, 10), 1);
        due("the second", x.kept(0, 11), 3);
        says("Promise 12", "NONE: none such.");
        for (int what : new int[] {MIN, -1, 2, 9, 12, 13, 16, MAX}) {
            due("what " + what, x.kept(0, what), NONE);
        }
        for (int day : NO_DAYS) {
            due("DAY " + day, x.kept(day, 0), NONE);
            due("the first on DAY " + day, x.kept(day, 10), NONE);
        }
        for (int i = 0; i < 9; i++) {
            paper(x, 1, 0);
        }
        due("the sixth", x.kept(0, 15), 8);
        due("no seventh", x.kept(0, 16), NONE);
        due("none of a new one", new IceSearch().kept(0, 10), NONE);
    }

    private void testPromisedFits() {
        says("Promise 13", "FITS (1, 0).");
        IceSearch x = lostAt(34, 1);
        due("it does", x.fits(0), 1);
        x.day(2);
        paper(x, 36, 1);
        due("it doesn't", x.fits(2), 0);
        due("by DAY 1 it does", x.fits(1), 1);
        says("Promise 13", "NONE: no such DAY.");
        for (int day : NO_DAYS) {
            due("DAY " + day, x.fits(day), NONE);
        }
    }

    private void testPromisedMost() {
        says("Promise 14", "MOST: how many (what 0), the set (1).");
        IceSearch x = lostAt(34, 1);
        due("of none", x.most(0, 0), 0);
        due("of none, the set", x.most(0, 1), 0);
        paper(x, 36, 1);
        paper(x, 35, 1);
        due("how many", x.most(0, 0), 1);
        due("the set", x.most(0, 1), 2);
        says("Promise 14", "NONE: no WAY, none such.");
        for (int what : new int[] {MIN, -1, 2, 3, 10, MAX}) {
            due("what " + what, x.most(0, what), NONE);
        }
        for (int day : NO_DAYS) {
            due("DAY " + day, x.most(day, 0), NONE);
            due("the set, DAY " + day, x.most(day, 1), NONE);
        }
        nothing(x, 34, 0, 0);
        due("no WAY", x.most(0, 0), NONE);
        due("no WAY, no set", x.most(0, 1), NONE);
    }

    private void testPromisedAt() {
        says("Promise 15", "AT (1, 0; STEP at most LAST).");
        IceSearch x = lostAt(34, 3);
        due("on LAST", x.at(0, 37, 3), 1);
        due("before", x.at(0, 37, 2), 0);
        x.set(0, 50);
        due("on STEP 0", x.at(0, 34, 0), 1);
        says("Promise 15", "NONE: none such.");
        for (int step : new int[] {MIN, -1, 1, 3, 120, MAX}) {
            due("STEP " + step, x.at(0, 34, step), NONE);
        }
        for (int cell : NO_CELLS) {
            due("CELL " + cell, x.at(0, cell, 0), NONE);
        }
        for (int day : NO_DAYS) {
            due("DAY " + day, x.at(day, 34, 0), NONE);
        }
    }

    private void testPromisedSure() {
        says("Promise 16", "SURE (1, 0).");
        IceSearch x = lostAt(34, 0);
        due("the start", x.sure(0, 34), 1);
        due("elsewhere", x.sure(0, 33), 0);
        says("Promise 16", "NONE: none such.");
        for (int cell : NO_CELLS) {
            due("CELL " + cell, x.sure(0, cell), NONE);
        }
        for (int day : NO_DAYS) {
            due("DAY " + day, x.sure(day, 34), NONE);
        }
    }

    private void testPromisedEnds() {
        says("Promise 17", "ENDS.");
        IceSearch x = lostAt(34, 1);
        due("nine", x.ends(0), 9);
        paper(x, 0, 1);
        due("none", x.ends(0), 0);
        says("Promise 17", "NONE: no such DAY.");
        for (int day : NO_DAYS) {
            due("DAY " + day, x.ends(day), NONE);
        }
    }

    private void testPromisedJudge() {
        says("Promise 20", "JUDGED as KNOWN by a DAY.");
        IceSearch x = lostAt(34, 0);
        x.day(8);
        paper(x, 35, 1);
        x.move(3);
        x.move(3);
        due("met", x.judge(8), NONE);
        x.ice(36, 0, true);
        due("SHUT", x.judge(8), 2);
        due("by DAY 7", x.judge(7), NONE);
        says("Promise 20", "NONE: nothing stands against it;");
        x.clear();
        due("an empty ROW by DAY 7", x.judge(7), NONE);
        due("by DAY 8 a find does", x.judge(8), 1000);
        says("Promise 20", "-2: no such DAY.");
        for (int day : NO_DAYS) {
            due("DAY " + day, x.judge(day), NONE_SUCH);
        }
    }

    private void testPromisedAlive() {
        says("Promise 21", "ALIVE.");
        IceSearch x = new IceSearch();
        x.lost(0, 40, 0, NONE);
        int[] want = {40, 35, 31, 27, 24, 21};
        for (int step = 0; step < want.length; step++) {
            due("alive(" + step + ")", x.alive(step), want[step]);
        }
        says("Promise 21", "NONE: no such STEP.");
        for (int step : NO_STEPS) {
            due("alive(" + step + ")", x.alive(step), NONE);
        }
        due("alive(119)", x.alive(119), 0);
    }
}
