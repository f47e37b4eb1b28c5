/** Promises 12 to 20: finds KEPT, all WAYS, and told ROWS judged. CELL 16 * row + column; they start at 34 (2, 2). */
public final class WaysTest {
    private static final Check CHECK = new Check("WaysTest");
    private static final int MAX = Integer.MAX_VALUE;
    private static final int MIN = Integer.MIN_VALUE;

    public static void main(String[] args) {
        testKept();
        testKeptByDay();
        testFits();
        testFindBehindLast();
        testReach();
        testNothing();
        testIceByYear();
        testAshore();
        testEdges();
        testMost();
        testAt();
        testSure();
        testEnds();
        testWrong();
        testJudgeMoves();
        testJudgeFinds();
        CHECK.end();
    }

    private static void due(String call, long got, long want) {
        CHECK.due(call, got, want);
    }

    private static IceSearch lostAt34(int last) {
        IceSearch x = new IceSearch();
        x.lost(34, 10, 100, -1);
        x.set(last, 50);
        return x;
    }

    private static void testKept() {
        IceSearch x = lostAt34(5);
        x.teller(50, -1);
        x.teller(49, -1);
        due("a find below HOLD", x.find(3, 34, 0, 5, 15, 1, 0), 0);
        for (int i = 1; i <= 7; i++) {
            x.find(3, 34, 0, 5, 15, i % 2 - 1, 0);
            x.find(4, 200 + i, 0, 5, i == 3 ? 99 : 100, -1, 0);
        }
        due("the first six", x.kept(0, 0), 6);
        due("of KIND 4 with n 100", x.kept(0, 1), 6);
        int[] want = {1, 3, 5, 7, 9, 11};
        for (int i = 0; i < 6; i++) {
            due("KEPT " + i, x.kept(0, 10 + i), want[i]);
        }
        due("KEPT 6", x.kept(0, 16), -1);
        x.set(5, 49);
        due("HOLD 49", x.kept(0, 10), 0);
        x.set(5, 51);
        due("HOLD 51", x.kept(0, 0), 3);
        due("HOLD 51, the first", x.kept(0, 10), 3);
        x.find(4, 9, 0, 5, 100, 0, 0);
        due("trust below HOLD, of KIND 4", x.kept(0, 1), 6);
    }

    private static void testKeptByDay() {
        IceSearch x = lostAt34(5);
        x.find(3, 34, 0, 5, 15, -1, 0);
        x.day(10);
        x.find(3, 34, 0, 5, 15, -1, 0);
        x.find(4, 34, 5, 5, 100, -1, 0);
        x.doubt(0, true);
        due("by DAY 9", x.kept(9, 0), 1);
        due("by DAY 9, the first", x.kept(9, 10), 0);
        due("by DAY 9, of KIND 4", x.kept(9, 1), 0);
        due("by DAY 10", x.kept(10, 0), 1);
        due("by DAY 10, the first", x.kept(10, 10), 1);
        due("by DAY 999, of KIND 4", x.kept(999, 1), 1);
        due("no such DAY", x.kept(-1, 0), -1);
        due("no such DAY, 1000", x.kept(1000, 0), -1);
        due("what 2", x.kept(10, 2), -1);
        due("what 9", x.kept(10, 9), -1);
        due("what 11", x.kept(10, 11), -1);
        due("what -1", x.kept(10, -1), -1);
        due("what MIN", x.kept(10, MIN), -1);
        due("what MAX", x.kept(10, MAX), -1);
    }

    private static void testFits() {
        IceSearch x = lostAt34(4);
        due("no finds", x.fits(0), 1);
        x.find(0, 38, 4, 4, 0, -1, 0);
        due("four moves to east", x.fits(0), 1);
        x.set(3, 50);
        due("LAST is before it", x.fits(0), 0);
        x.set(5, 50);
        x.find(0, 36, 3, 3, 0, -1, 0);
        due("not both", x.fits(0), 0);
        x.doubt(1, true);
        due("without the doubted", x.fits(0), 1);
        x.day(1);
        x.land(37, true);
        x.land(21, true);
        x.land(53, true);
        x.land(22, true);
        x.land(54, true);
        due("land in between", x.fits(0), 0);
        x.land(53, false);
        due("by 52 and 53", x.fits(1), 1);
        x.land(52, true);
        x.land(36, true);
        x.land(20, true);
        x.land(68, true);
        due("no more by them", x.fits(1), 0);
    }

    private static void testFindBehindLast() {
        IceSearch x = lostAt34(4);
        x.find(1, 34, 4, 9, 0, -1, 0);
        due("a STEP of it is LAST", x.fits(0), 1);
        x.set(3, 50);
        due("all STEPS behind LAST", x.fits(0), 0);
        x.doubt(0, true);
        x.find(4, 34, 4, 9, 100, -1, 0);
        due("nothing behind LAST", x.fits(0), 1);
        due("may be there", x.at(0, 34, 3), 1);
    }

    private static void testReach() {
        int[][] wants = {{1, 2}, {2, 5}, {3, 15}};
        for (int[] want : wants) {
            for (int n = 0; n <= want[1]; n++) {
                IceSearch x = new IceSearch();
                x.find(want[0], 16 * n, 0, 0, n, -1, 0);
                due("kind " + want[0] + ", as far as n " + n, x.fits(0), 1);
                if (n > 0) {
                    x.find(want[0], n, 0, 0, n - 1, -1, 0);
                    due("kind " + want[0] + ", one further than " + (n - 1), x.fits(0), 0);
                }
            }
        }
        IceSearch x = lostAt34(0);
        x.find(2, 34 + 16 * 3 + 5, 0, 0, 4, -1, 0);
        due("rows 3, columns 5, n 4", x.fits(0), 0);
        x.doubt(0, true);
        x.find(2, 34 + 16 * 3 + 5, 0, 0, 5, -1, 0);
        due("rows 3, columns 5, n 5", x.fits(0), 1);
        x.find(2, 34 + 16 * 5 + 3, 0, 0, 4, -1, 0);
        due("rows 5, columns 3, n 4", x.fits(0), 0);
    }

    private static void testNothing() {
        IceSearch x = lostAt34(3);
        x.find(4, 34, 1, 2, 100, -1, 0);
        due("they must leave", x.fits(0), 1);
        due("ends", x.ends(0), 36);
        due("not there", x.at(0, 34, 1), 0);
        due("there again", x.at(0, 34, 3), 1);
        x.find(4, 34, 0, 0, 100, -1, 0);
        due("they were there", x.fits(0), 0);
        due("no WAY at all", x.most(0, 0), -1);
        due("no WAY, no set", x.most(0, 1), -1);
        due("ends nowhere", x.ends(0), 0);
        due("at nowhere", x.at(0, 34, 0), 0);
        due("not sure", x.sure(0, 34), 0);
        x.doubt(1, true);
        x.find(4, 33, 0, 3, 99, -1, 0);
        due("99 hundredths forbid nothing", x.at(0, 33, 2), 1);
    }

    private static void testIceByYear() {
        IceSearch x = lostAt34(12);
        for (int c = 0; c < 256; c++) {
            if (c != 34 && c % 16 >= 1 && c % 16 <= 3 && c / 16 >= 1 && c / 16 <= 3) {
                x.ice(c, 0, true);
            }
        }
        due("shut in", x.at(0, 35, 9), 0);
        due("they may stay", x.at(0, 34, 9), 1);
        due("open in the YEAR 1", x.at(0, 35, 10), 1);
        due("ends", x.ends(0), 6 * 6);
        x.ice(34, 1, true);
        due("staying in SHUT sea", x.at(0, 34, 12), 1);
        x.ice(35, 1, true);
        due("SHUT in the YEAR 1", x.at(0, 35, 12), 0);
        x.day(2);
        x.ice(35, 1, false);
        due("as KNOWN before", x.at(1, 35, 12), 0);
        due("as KNOWN now", x.at(2, 35, 12), 1);
        due("coming back into SHUT sea", x.at(2, 36, 11), 1);
        x.find(0, 36, 11, 11, 0, -1, 0);
        due("34 is SHUT", x.at(2, 34, 12), 0);
    }

    private static void testAshore() {
        IceSearch x = new IceSearch();
        x.lost(34, 10, 100, 3);
        x.set(5, 50);
        for (int c = 17; c < 52; c++) {
            if (c != 34) {
                x.land(c, true);
            }
        }
        due("not before ASHORE", x.at(0, 35, 2), 0);
        due("on ASHORE", x.at(0, 35, 3), 1);
        due("two further", x.at(0, 36, 3), 0);
        due("ends", x.ends(0), 36);
        x.ice(36, 0, true);
        due("over SHUT cells, too", x.at(0, 36, 4), 1);
    }

    private static void testEdges() {
        int[] starts = {0, 15, 240, 255, 8, 128, 143, 248, 136};
        for (int start : starts) {
            IceSearch x = new IceSearch();
            x.lost(start, 10, 100, -1);
            x.set(1, 50);
            int ends = 0;
            for (int cell = 0; cell < 256; cell++) {
                int rows = Math.abs(start / 16 - cell / 16);
                int columns = Math.abs(start % 16 - cell % 16);
                int want = rows <= 1 && columns <= 1 ? 1 : 0;
                due("from " + start + " to " + cell, x.at(0, cell, 1), want);
                ends += want;
            }
            due("ends from " + start, x.ends(0), ends);
        }
    }

    private static void testMost() {
        IceSearch x = lostAt34(3);
        due("nothing KEPT", x.most(0, 0), 0);
        due("nothing KEPT: the set", x.most(0, 1), 0);
        x.find(0, 37, 3, 3, 0, -1, 0);
        x.find(0, 31, 3, 3, 0, -1, 0);
        x.find(0, 36, 3, 3, 0, -1, 0);
        x.find(0, 32, 2, 2, 0, -1, 0);
        x.find(0, 36, 2, 2, 0, -1, 0);
        due("two of five", x.most(0, 0), 2);
        // 10001 (37 and 36 on 2) and 10100 (36 on both) are two; the least is 10001.
        due("the least set", x.most(0, 1), 17);
        x.doubt(4, true);
        due("one of four", x.most(0, 0), 1);
        due("the first", x.most(0, 1), 1);
        x.doubt(0, true);
        // 31 lies at the other side, so the bits now stand for the finds 1, 2 and 3.
        due("bits by KEPT ones", x.most(0, 1), 2);
        x.find(4, 36, 3, 3, 100, -1, 0);
        due("of KIND 4 all are met", x.most(0, 1), 4);
        due("what 2", x.most(0, 2), -1);
        due("what -1", x.most(0, -1), -1);
        due("no such DAY", x.most(1000, 0), -1);
        x = lostAt34(2);
        for (int i = 0; i < 6; i++) {
            x.find(3, 40 + i, 1, 2, 15, -1, 0);
        }
        due("all six", x.most(0, 0), 6);
        due("all six: the set", x.most(0, 1), 63);
        due("all six fit", x.fits(0), 1);
        due("all six: ends", x.ends(0), 25);
    }

    private static void testAt() {
        IceSearch x = lostAt34(4);
        x.find(0, 36, 2, 2, 0, -1, 0);
        due("at the start", x.at(0, 34, 0), 1);
        due("not elsewhere", x.at(0, 35, 0), 0);
        due("before the find", x.at(0, 35, 1), 1);
        due("the way there goes through row 1, too", x.at(0, 19, 1), 1);
        due("not by 33", x.at(0, 33, 1), 0);
        due("behind the find", x.at(0, 54, 3), 0);
        due("behind it", x.at(0, 53, 3), 1);
        due("far behind it", x.at(0, 34, 4), 1);
        due("LAST and 1", x.at(0, 34, 5), -1);
        due("STEP -1", x.at(0, 34, -1), -1);
        due("STEP MAX", x.at(0, 34, MAX), -1);
        due("CELL -1", x.at(0, -1, 0), -1);
        due("CELL 256", x.at(0, 256, 0), -1);
        due("DAY -1", x.at(-1, 34, 0), -1);
        due("DAY 1000", x.at(1000, 34, 0), -1);
    }

    private static void testSure() {
        IceSearch x = lostAt34(4);
        due("where they were", x.sure(0, 34), 1);
        due("elsewhere", x.sure(0, 35), 0);
        x.find(0, 38, 4, 4, 0, -1, 0);
        due("three ways go by 35, 19 or 51", x.sure(0, 35), 0);
        due("at the find", x.sure(0, 38), 1);
        x.land(19, true);
        x.ice(51, 0, true);
        due("by 35 alone", x.sure(0, 35), 1);
        due("not by 36 alone", x.sure(0, 36), 0);
        x.land(35, true);
        due("no such WAY", x.sure(0, 34), 0);
        due("CELL -1", x.sure(0, -1), -1);
        due("CELL 256", x.sure(0, 256), -1);
        due("DAY -1", x.sure(-1, 0), -1);
        due("DAY 1000", x.sure(1000, 0), -1);
        x = lostAt34(4);
        // 36 on STEP 1 to 3 or the like: each way is there on some STEP, but not on the same.
        x.find(0, 36, 2, 4, 0, -1, 0);
        due("on some STEP", x.sure(0, 36), 1);
        due("not on STEP 2", x.at(0, 34, 2), 1);
    }

    private static void testEnds() {
        IceSearch x = lostAt34(0);
        due("at the start", x.ends(0), 1);
        int[] want = {1, 9, 25, 36, 49, 64, 81, 100, 121, 144, 169, 196, 225, 256, 256};
        for (int last = 0; last < want.length; last++) {
            x.set(last, 50);
            due("ends with LAST " + last, x.ends(0), want[last]);
        }
        x.set(119, 50);
        due("ends with LAST 119", x.ends(0), 256);
        x.land(0, true);
        due("not at land", x.ends(0), 255);
        x.find(0, 34, 118, 118, 0, -1, 0);
        due("a STEP behind a find", x.ends(0), 9);
    }

    private static void testWrong() {
        IceSearch x = lostAt34(2);
        due("fits(-1)", x.fits(-1), -1);
        due("fits(1000)", x.fits(1000), -1);
        due("fits(999)", x.fits(999), 1);
        due("ends(-1)", x.ends(-1), -1);
        due("ends(1000)", x.ends(1000), -1);
        due("judge(-1)", x.judge(-1), -2);
        due("judge(1000)", x.judge(1000), -2);
        due("judge(999)", x.judge(999), -1);
    }

    private static void move(IceSearch x, int... moves) {
        x.clear();
        for (int m : moves) {
            x.move(m);
        }
    }

    private static void testJudgeMoves() {
        IceSearch x = lostAt34(0);
        int[] beside = {34, 18, 19, 35, 51, 50, 49, 33, 17};
        for (int m = 0; m <= 8; m++) {
            IceSearch y = lostAt34(0);
            y.find(0, beside[m], 1, 1, 0, -1, 0);
            move(y, m);
            due("move " + m + " leads to " + beside[m], y.judge(0), -1);
        }
        move(x, 1, 1, 1);
        due("out over the north", x.judge(0), 3);
        move(x, 7, 7, 7);
        due("out over the west", x.judge(0), 3);
        move(x, 8, 8, 8, 0);
        due("out over the corner", x.judge(0), 3);
        move(x, 0, 4, 3, 2, 1);
        due("fine", x.judge(0), -1);
        x.land(51, true);
        due("over land", x.judge(0), 2);
        x.lost(34, 1, 0, 3);
        due("before ASHORE", x.judge(0), 2);
        x.lost(34, 1, 0, 2);
        due("from ASHORE on", x.judge(0), -1);
        x.lost(34, 1, 0, -1);
        x.land(51, false);
        x.day(5);
        x.ice(52, 0, true);
        due("SHUT", x.judge(5), 3);
        due("not KNOWN yet", x.judge(4), -1);
        x.ice(34, 0, true);
        move(x, 0, 0);
        due("they may stay", x.judge(5), -1);
        move(x, 0, 0, 0, 0, 0, 0, 0, 0, 3, 3);
        due("SHUT in the YEAR 1 isn't told", x.judge(5), -1);
        x.ice(36, 1, true);
        due("SHUT on STEP 10", x.judge(5), 10);
        x = lostAt34(0);
        x.lost(255, 1, 0, 0);
        move(x, 3);
        due("out over the east", x.judge(0), 1);
        move(x, 0, 5);
        due("out over the south", x.judge(0), 2);
    }

    private static void testJudgeFinds() {
        IceSearch x = lostAt34(0);
        x.find(0, 36, 2, 2, 0, -1, 0);
        x.find(1, 36, 4, 9, 1, -1, 0);
        due("an empty ROW", x.judge(0), 1000);
        move(x, 3, 3);
        due("by its own last STEP", x.judge(0), 1001);
        move(x, 3, 3, 0, 3);
        due("both, though LAST is 0", x.judge(0), -1);
        move(x, 3, 3, 3, 3);
        due("too far", x.judge(0), 1001);
        move(x, 3, 3, 3, 3, 7);
        due("later", x.judge(0), -1);
        x.doubt(0, true);
        move(x, 3, 0, 0, 3);
        due("without the doubted", x.judge(0), -1);
        x.find(4, 35, 2, 3, 100, -1, 0);
        due("where nothing was", x.judge(0), 2);
        move(x, 3, 3, 7, 7);
        due("where nothing was, by its last STEP", x.judge(0), 3);
        move(x, 3, 3, 0, 7, 0);
        due("there before and behind", x.judge(0), -1);
        x.find(4, 34, 0, 0, 100, -1, 0);
        due("at the start", x.judge(0), 0);
        x.clear();
        due("the empty ROW at the start", x.judge(0), 0);
        x.doubt(3, true);
        x.find(4, 34, 0, 0, 99, -1, 0);
        due("not KEPT", x.judge(0), 1001);
        x.teller(40, -1);
        x.find(0, 99, 0, 0, 0, 0, 0);
        move(x, 3, 3, 0, 0);
        due("below HOLD", x.judge(0), -1);
        x.clear();
        for (int i = 0; i < 119; i++) {
            x.move(i == 0 ? 3 : i == 1 ? 3 : 0);
        }
        due("119 moves", x.judge(0), -1);
        x.find(0, 36, 119, 119, 0, -1, 0);
        due("STEP 119", x.judge(0), -1);
        x.find(4, 36, 119, 119, 100, -1, 0);
        due("against STEP 119", x.judge(0), 119);
        x = lostAt34(0);
        x.find(0, 34, 0, 0, 0, -1, 0);
        move(x, 3);
        due("met on STEP 0", x.judge(0), -1);
    }
}
