import java.util.Random;

/** Runs of calls made by chance, each answer held against the Model's. */
public final class RandomRunsTest {
    private static final int RUNS = 700;
    private static final int CALLS = 260;
    private static final int[] ODD = {-1, -2, 256, 1000, 120, 12, 40, 101, 10, Integer.MAX_VALUE, Integer.MIN_VALUE};
    private final Check check = new Check("RandomRunsTest");
    private Random random;
    private Texts texts;
    private IceSearch x;
    private Model m;
    private int run;
    private int start;
    private int lastMost;
    private int day;
    private int fed;

    public static void main(String[] args) {
        RandomRunsTest test = new RandomRunsTest();
        for (int run = 0; run < RUNS && test.check.isGood(); run++) {
            test.go(run);
        }
        test.check.end();
    }

    private void due(String call, long got, long want) {
        check.due("run " + run + ": " + call, got, want);
    }

    private void due(String call, boolean got, boolean want) {
        check.due("run " + run + ": " + call, got, want);
    }

    private void go(int number) {
        run = number;
        random = new Random(9000 + number);
        texts = new Texts(random);
        x = new IceSearch();
        m = new Model();
        start = random.nextInt(4) == 0 ? 0 : random.nextInt(256);
        day = 0;
        fed = 0;
        lastMost = new int[] {3, 3, 9, 9, 14, number % 20 == 0 ? 119 : 6}[random.nextInt(6)];
        setOut();
        for (int i = 0; i < CALLS && check.isGood(); i++) {
            switch (random.nextInt(3)) {
                case 0 -> tell();
                case 1 -> askOfWays();
                default -> askOfRest();
            }
        }
    }

    private void setOut() {
        due("lost(" + start + ", ..)", x.lost(start, 40, 500, -1), m.lost(start, 40, 500, -1));
        int many = random.nextInt(14);
        for (int i = 0; i < many; i++) {
            tellLand();
            tellIce();
        }
        tellSet();
    }

    private int odd() {
        return ODD[random.nextInt(ODD.length)];
    }

    private int cell() {
        int kind = random.nextInt(30);
        if (kind == 0) {
            return odd();
        }
        if (kind < 4) {
            return random.nextInt(256);
        }
        int row = start / 16 + random.nextInt(7) - 3;
        int column = start % 16 + random.nextInt(7) - 3;
        return Math.max(0, Math.min(15, row)) * 16 + Math.max(0, Math.min(15, column));
    }

    private int upTo(int most) {
        return random.nextInt(40) == 0 ? odd() : random.nextInt(most + 1);
    }

    private int day() {
        return random.nextInt(30) == 0 ? odd() : random.nextInt(5) == 0 ? day : random.nextInt(day + 4);
    }

    private int step() {
        return upTo(lastMost);
    }

    private void tell() {
        switch (random.nextInt(15)) {
            case 0 -> tellDay();
            case 1 -> tellLand();
            case 2 -> tellLost();
            case 3 -> tellSet();
            case 4, 5 -> tellIce();
            case 6 -> tellTeller();
            case 7, 8 -> tellFind();
            case 9 -> tellDoubt();
            case 10 -> tellShip();
            case 11 -> tellHome();
            case 12 -> tellMove();
            case 13 -> tellRules();
            default -> feedSome();
        }
    }

    private void tellDay() {
        int d = random.nextInt(8) == 0 ? odd() : day + random.nextInt(4);
        boolean is = m.day(d);
        due("day(" + d + ")", x.day(d), is);
        day = is && d < 900 ? d : day;
    }

    private void tellLand() {
        int cell = cell();
        boolean is = random.nextInt(4) > 0;
        due("land(" + cell + ", " + is + ")", x.land(cell, is), m.land(cell, is));
    }

    private void tellLost() {
        if (random.nextInt(3) > 0) {
            return;
        }
        int cell = cell();
        int men = random.nextInt(10) == 0 ? odd() : 1 + random.nextInt(200);
        int food = random.nextInt(10) == 0 ? random.nextBoolean() ? 100000 : 99999 : random.nextInt(2000);
        int ashore = random.nextInt(10) == 0 ? odd() : random.nextBoolean() ? -1 : step();
        boolean is = m.lost(cell, men, food, ashore);
        due("lost(" + cell + ", " + men + ", " + food + ", " + ashore + ")", x.lost(cell, men, food, ashore), is);
        start = is ? cell : start;
    }

    private void tellSet() {
        int last = random.nextInt(15) == 0 ? -1 - random.nextInt(3) : random.nextInt(lastMost + 1);
        int hold = random.nextInt(10) == 0 ? odd() : random.nextInt(101);
        due("set(" + last + ", " + hold + ")", x.set(last, hold), m.set(last, hold));
    }

    private void tellIce() {
        int cell = cell();
        int year = random.nextInt(20) == 0 ? odd() : random.nextInt(lastMost / 10 + 1);
        boolean shut = random.nextInt(4) > 0;
        due("ice(" + cell + ", " + year + ", " + shut + ")", x.ice(cell, year, shut), m.ice(cell, year, shut));
    }

    private void tellTeller() {
        int trust = upTo(100);
        int by = random.nextInt(4) - 1;
        due("teller(" + trust + ", " + by + ")", x.teller(trust, by), m.teller(trust, by));
    }

    private void tellFind() {
        int kind = random.nextInt(25) == 0 ? odd() : random.nextInt(5);
        int cell = cell();
        int a = step();
        int b = random.nextInt(5) == 0 ? step() : a + random.nextInt(4);
        int n = kind == 4 ? random.nextInt(3) == 0 ? 100 : random.nextInt(102) : random.nextInt(4);
        n = random.nextInt(6) == 0 ? 0 : n;
        int teller = random.nextBoolean() ? -1 : random.nextInt(4);
        int finder = upTo(3);
        due("find(" + kind + ", " + cell + ", " + a + ", " + b + ", " + n + ", " + teller + ", " + finder + ")",
            x.find(kind, cell, a, b, n, teller, finder), m.find(kind, cell, a, b, n, teller, finder));
    }

    private void tellDoubt() {
        int find = upTo(12);
        boolean is = random.nextInt(3) > 0;
        due("doubt(" + find + ", " + is + ")", x.doubt(find, is), m.doubt(find, is));
    }

    private void tellShip() {
        int home = cell();
        int range = random.nextInt(10) == 0 ? 21 - random.nextInt(23) : random.nextInt(3);
        int well = random.nextInt(10) == 0 ? odd() : 1 + random.nextInt(100);
        due("ship(" + home + ", " + range + ", " + well + ")", x.ship(home, range, well), m.ship(home, range, well));
    }

    private void tellHome() {
        int cell = cell();
        boolean is = random.nextInt(3) > 0;
        due("home(" + cell + ", " + is + ")", x.home(cell, is), m.home(cell, is));
    }

    private void tellMove() {
        if (random.nextInt(20) == 0) {
            due("clear()", x.clear(), m.clear());
        }
        int to = random.nextInt(4) == 0 ? 0 : upTo(8);
        due("move(" + to + ")", x.move(to), m.move(to));
    }

    private void feedSome() {
        int a = random.nextInt();
        int b = random.nextInt();
        if (random.nextInt(4) == 0) {
            int want = m.feed(a, b, -1, 0, 1);
            due("feed(" + a + ", ..)", x.feed(a, b, -1, 0, 1), want);
            fed = want == -1 ? fed : want;
        }
    }

    private void tellRules() {
        if (fed > 0 && random.nextInt(3) > 0) {
            int n = random.nextInt(fed + 3) - 1;
            due("rules(" + n + ") of noise", x.rules(n), m.rules(n));
        } else {
            String text = texts.next();
            for (int i = 0; i < 5 * Texts.feeds(text); i += 5) {
                int[] w = new int[5];
                for (int k = 0; k < 5; k++) {
                    w[k] = Texts.word(text, i + k);
                }
                due("feed of " + text, x.feed(w[0], w[1], w[2], w[3], w[4]), m.feed(w));
            }
            int n = random.nextInt(20) == 0 ? odd() : text.length();
            if (random.nextInt(3) == 0) {
                due("beside(" + n + ") of " + text, x.beside(n), m.beside(n));
            } else {
                due("rules(" + n + ") of " + text, x.rules(n), m.rules(n));
            }
        }
        due("fault()", x.fault(), m.fault());
        fed = m.count(13);
    }

    private void askOfWays() {
        if (lastMost > 20 && random.nextInt(4) > 0) {
            return;
        }
        int d = day();
        int cell = cell();
        int step = step();
        switch (random.nextInt(6)) {
            case 0 -> due("fits(" + d + ")", x.fits(d), m.fits(d));
            case 1 -> {
                int what = random.nextInt(12) == 0 ? odd() : random.nextInt(2);
                due("most(" + d + ", " + what + ")", x.most(d, what), m.most(d, what));
            }
            case 2 -> due("at(" + d + ", " + cell + ", " + step + ")", x.at(d, cell, step), m.at(d, cell, step));
            case 3 -> due("sure(" + d + ", " + cell + ")", x.sure(d, cell), m.sure(d, cell));
            case 4 -> due("ends(" + d + ")", x.ends(d), m.ends(d));
            default -> {
                int what = random.nextInt(3) == 0 ? random.nextInt(3) : 9 + random.nextInt(8);
                due("kept(" + d + ", " + what + ")", x.kept(d, what), m.kept(d, what));
            }
        }
    }

    private void askOfRest() {
        int d = day();
        int cell = cell();
        int step = step();
        switch (random.nextInt(15)) {
            case 0 -> due("judge(" + d + ")", x.judge(d), m.judge(d));
            case 1 -> due("alive(" + step + ")", x.alive(step), m.alive(step));
            case 2, 3 -> due("chance(" + d + ", " + cell + ", " + step + ")", x.chance(d, cell, step),
                m.chance(d, cell, step));
            case 4 -> due("left(" + d + ", " + step + ")", x.left(d, step), m.left(d, step));
            case 5 -> {
                int find = upTo(10);
                due("lead(" + d + ", " + cell + ", " + step + ", " + find + ")", x.lead(d, cell, step, find),
                    m.lead(d, cell, step, find));
            }
            case 6 -> {
                int ship = upTo(4);
                due("trip(" + ship + ", " + cell + ")", x.trip(ship, cell), m.trip(ship, cell));
            }
            case 7 -> askBest();
            case 8, 9 -> {
                int what = random.nextBoolean() ? upTo(5) : 100 + step;
                due("would(" + d + ", " + what + ")", x.would(d, what), m.would(d, what));
            }
            case 10 -> {
                int what = random.nextInt(10) == 0 ? 100 : upTo(5);
                due("tried(" + d + ", " + what + ")", x.tried(d, what), m.tried(d, what));
            }
            case 11 -> {
                int what = random.nextInt(10) == 0 ? odd() : random.nextInt(2);
                due("quarrel(" + d + ", " + what + ")", x.quarrel(d, what), m.quarrel(d, what));
            }
            case 12 -> {
                int finder = upTo(3);
                due("paid(" + finder + ", " + d + ")", x.paid(finder, d), m.paid(finder, d));
            }
            case 13 -> {
                int find = upTo(8);
                int what = upTo(10);
                due("found(" + find + ", " + what + ")", x.found(find, what), m.found(find, what));
            }
            default -> askSmall(cell, d);
        }
    }

    private void askBest() {
        if (m.rowsOfShips() <= 4000) {
            int what = random.nextInt(4) == 0 ? 0 : random.nextInt(10) == 0 ? odd() : 9 + random.nextInt(6);
            due("best(" + what + ")", x.best(what), m.best(what));
        }
    }

    private void askSmall(int cell, int d) {
        int year = upTo(lastMost / 10);
        due("shut(" + cell + ", " + year + ", " + d + ")", x.shut(cell, year, d), m.shut(cell, year, d));
        int what = random.nextInt(16);
        due("count(" + what + ")", x.count(what), m.count(what));
        int far = odd();
        due("count(" + far + ")", x.count(far), m.count(far));
    }
}
