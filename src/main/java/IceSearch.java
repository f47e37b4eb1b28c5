import java.util.Arrays;

/**
 * Two ships that never came back: where the lost can have been, by ice told for years and finds told by days.
 * What each method answers is told by number in ../shared/DOC.md; the words in capitals there are the words here.
 */
public final class IceSearch {
    /** There is none. */
    public static final int NONE = -1;

    private static final int NONE_SUCH = -2;
    private static final int RULES_FULL = -3;
    private static final int NO_LEAD = -2000000000;

    private static final int SIDE = 16;
    private static final int CELLS = 256;
    private static final int DAYS = 1000;
    private static final int YEARS = 12;
    private static final int STEPS = 120;
    private static final int STEPS_A_YEAR = 10;
    private static final int HUNDRED = 100;
    private static final int MEN_MOST = 200;
    private static final int FOOD_MOST = 99999;
    private static final int RULES_MOST = 8;

    // The moves 0 to 8: 0 stays, 1 is north, and so on round by the sun.
    private static final int MOVES = 9;
    private static final int[] ROWS_OF_MOVE = {0, -1, -1, 0, 1, 1, 1, 0, -1};
    private static final int[] COLUMNS_OF_MOVE = {0, 0, 1, 1, 1, 0, -1, -1, -1};

    private static final int KIND_PAPER = 0;
    private static final int KIND_GRAVE = 1;
    private static final int KIND_TOLD = 2;
    private static final int KIND_BOUGHT = 3;
    private static final int KIND_NOTHING = 4;

    // What a find is asked for, as the document numbers it.
    private static final int FIND_KIND = 0;
    private static final int FIND_CELL = 1;
    private static final int FIND_FROM = 2;
    private static final int FIND_TO = 3;
    private static final int FIND_REACH = 4;
    private static final int FIND_TELLER = 5;
    private static final int FIND_FINDER = 6;
    private static final int FIND_TRUST = 7;
    private static final int FIND_DAY = 8;
    private static final int FIND_DOUBTED = 9;
    private static final int FACTS = 9;
    private static final int FINDERS = 10;

    // The words that conditions ask for, by their place in Tape.WORDS.
    private static final int ASK_YEAR = 0;
    private static final int ASK_STEP = 1;
    private static final int ASK_FOOD = 2;
    private static final int ASK_MEN = 3;
    private static final int ASK_NORTH = 4;
    private static final int ASK_AFOOT = 8;
    private static final int ASK_REACH = 9;
    private static final int ASK_TRUST = 10;
    private static final int ASK_FIRST = 11;
    private static final int ASKED = 12;
    private static final int DIRECTIONS = 4;

    private final Sea sea;
    private final Party party;
    private final Clues clues;
    private final Row row;
    private final Ways ways;
    private final Masses masses;
    private final Fleet fleet;
    private final Voyage voyage;
    private final Tape tape;
    private final Reader reader;
    private final Rules noRules;
    private final Rules[] rulesTold;
    private final int[] asked;
    private Rules rulesBeside;
    private int rulesCount;
    private int today;
    private int last;
    private int hold;

    public IceSearch() {
        sea = new Sea();
        party = new Party();
        clues = new Clues();
        row = new Row(sea, party, clues);
        ways = new Ways(sea, party, clues);
        masses = new Masses(sea, party, clues);
        fleet = new Fleet(sea);
        voyage = new Voyage(sea, party);
        tape = new Tape();
        reader = new Reader(tape);
        noRules = new Rules(0, 0, new int[0], new int[0]);
        rulesTold = new Rules[RULES_MOST];
        asked = new int[ASKED];
        hold = 50;
    }

    public boolean day(int d) {
        if (d <= today || d >= DAYS) {
            return false;
        }
        today = d;
        return true;
    }

    public boolean land(int cell, boolean is) {
        if (!isCell(cell) || cell == party.cell) {
            return false;
        }
        sea.tellLand(cell, is);
        return true;
    }

    public boolean lost(int cell, int men, int food, int ashore) {
        boolean told = sea.isSea(cell) && men >= 1 && men <= MEN_MOST && food >= 0 && food <= FOOD_MOST
            && (ashore == NONE || isStep(ashore));
        if (told) {
            party.cell = cell;
            party.men = men;
            party.food = food;
            party.ashore = ashore;
        }
        return told;
    }

    public boolean set(int last, int hold) {
        if (!isStep(last) || !isHundredths(hold)) {
            return false;
        }
        this.last = last;
        this.hold = hold;
        return true;
    }

    public int ice(int cell, int year, boolean shut) {
        if (!isCell(cell) || !isYear(year)) {
            return NONE;
        }
        return sea.tellIce(cell, year, shut, today);
    }

    public int shut(int cell, int year, int day) {
        if (!isCell(cell) || !isYear(year) || !isDay(day)) {
            return NONE;
        }
        return sea.isShut(cell, year, day) ? 1 : 0;
    }

    public int teller(int trust, int by) {
        return clues.tellTeller(trust, by);
    }

    public int find(int kind, int cell, int a, int b, int n, int teller, int finder) {
        boolean told = isCell(cell) && isStep(a) && isStep(b) && a <= b && clues.isReach(kind, n)
            && (teller == NONE || clues.isTeller(teller)) && isFinder(finder);
        if (!told || clues.isFull()) {
            return NONE;
        }
        int number = clues.count;
        clues.write(number, FIND_KIND, kind);
        clues.write(number, FIND_CELL, cell);
        clues.write(number, FIND_FROM, a);
        clues.write(number, FIND_TO, b);
        clues.write(number, FIND_REACH, n);
        clues.write(number, FIND_TELLER, teller);
        clues.write(number, FIND_FINDER, finder);
        clues.write(number, FIND_TRUST, clues.trustThrough(teller));
        clues.write(number, FIND_DAY, today);
        clues.count = number + 1;
        return number;
    }

    public boolean doubt(int find, boolean is) {
        return clues.isFind(find) && clues.tellDoubt(find, is, today);
    }

    public int found(int find, int what) {
        if (!clues.isFind(find) || what < 0 || what > FIND_DOUBTED) {
            return NONE_SUCH;
        }
        if (what == FIND_DOUBTED) {
            return clues.isDoubted(find, today) ? 1 : 0;
        }
        return clues.fact(find, what);
    }

    public int kept(int day, int what) {
        if (!isDay(day)) {
            return NONE;
        }
        clues.readKept(day, hold);
        if (what == 0) {
            return clues.keptCount;
        }
        if (what == 1) {
            return clues.barCount;
        }
        return what >= 10 ? clues.keptFind(what - 10) : NONE;
    }

    public int fits(int day) {
        if (!isDay(day)) {
            return NONE;
        }
        return countEnds(day, NONE, NONE, NONE) > 0 ? 1 : 0;
    }

    public int most(int day, int what) {
        if (!isDay(day) || what < 0 || what > 1) {
            return NONE;
        }
        countEnds(day, NONE, NONE, NONE);
        int set = ways.mostMet();
        return set == NONE || what == 1 ? set : Integer.bitCount(set);
    }

    public int at(int day, int cell, int step) {
        if (!isDay(day) || !isCell(cell) || !isStepOfWays(step)) {
            return NONE;
        }
        return countEnds(day, cell, step, NONE) > 0 ? 1 : 0;
    }

    public int sure(int day, int cell) {
        if (!isDay(day) || !isCell(cell)) {
            return NONE;
        }
        return countEnds(day, NONE, NONE, NONE) > 0 && countEnds(day, NONE, NONE, cell) == 0 ? 1 : 0;
    }

    public int ends(int day) {
        if (!isDay(day)) {
            return NONE;
        }
        return countEnds(day, NONE, NONE, NONE);
    }

    public int move(int to) {
        return row.add(to);
    }

    public int clear() {
        return row.empty();
    }

    public int judge(int day) {
        if (!isDay(day)) {
            return NONE_SUCH;
        }
        sea.readIce(day);
        clues.readKept(day, hold);
        return row.firstAgainst();
    }

    public int alive(int step) {
        if (!isStep(step)) {
            return NONE;
        }
        voyage.embark();
        for (int s = 1; s <= step; s++) {
            voyage.eat();
        }
        return voyage.men;
    }

    public int chance(int day, int cell, int step) {
        if (!isDay(day) || !isCell(cell) || !isStepOfWays(step)) {
            return NONE;
        }
        return masses.massAt(day, cell, step, NONE);
    }

    public int left(int day, int step) {
        if (!isDay(day) || !isStepOfWays(step)) {
            return NONE;
        }
        masses.follow(day, step, NONE);
        return masses.all();
    }

    public int lead(int day, int cell, int step, int find) {
        if (!isDay(day) || !isCell(cell) || !isStepOfWays(step) || !clues.isFind(find)) {
            return NO_LEAD;
        }
        return masses.massAt(day, cell, step, NONE) - masses.massAt(day, cell, step, find);
    }

    public int ship(int home, int range, int well) {
        return fleet.add(home, range, well);
    }

    public int trip(int ship, int cell) {
        if (!fleet.isShip(ship) || !isCell(cell)) {
            return NONE;
        }
        sea.readIce(today);
        return fleet.movesTo(ship, cell, last);
    }

    public int best(int what) {
        boolean asksShip = what >= 10 && fleet.isShip(what - 10);
        if (what != 0 && !asksShip) {
            return NONE;
        }
        masses.follow(today, last, NONE);
        fleet.choose(masses.mass, last);
        return what == 0 ? fleet.bestSum : fleet.bestCell(what - 10);
    }

    public int feed(int a, int b, int c, int d, int e) {
        if (!tape.hasRoom()) {
            return NONE;
        }
        tape.put(a);
        tape.put(b);
        tape.put(c);
        tape.put(d);
        tape.put(e);
        return tape.fed;
    }

    public int rules(int n) {
        if (!tape.hasFed(n)) {
            return NONE_SUCH;
        }
        if (rulesCount >= RULES_MOST) {
            return RULES_FULL;
        }
        Rules taken = reader.take(n, today);
        if (taken == null) {
            return NONE;
        }
        rulesTold[rulesCount] = taken;
        rulesCount++;
        return rulesCount - 1;
    }

    public int beside(int n) {
        if (!tape.hasFed(n)) {
            return NONE_SUCH;
        }
        rulesBeside = reader.take(n, today);
        return rulesBeside == null ? NONE : 0;
    }

    public int fault() {
        return reader.fault;
    }

    public boolean home(int cell, boolean is) {
        if (!isCell(cell)) {
            return false;
        }
        sea.tellHome(cell, is);
        return true;
    }

    public int would(int day, int what) {
        boolean asksStep = what >= HUNDRED && what - HUNDRED <= last;
        if (!isDay(day) || !asksStep && !isAskedOfVoyage(what)) {
            return NONE_SUCH;
        }
        sea.readIce(day);
        voyage.sail(rulesBy(day), last);
        return asksStep ? voyage.cellOn(what - HUNDRED) : voyage.answer(what);
    }

    public int tried(int day, int what) {
        if (rulesBeside == null || !isDay(day) || !isAskedOfVoyage(what)) {
            return NONE_SUCH;
        }
        sea.readIce(day);
        voyage.sail(rulesBeside, last);
        return voyage.answer(what);
    }

    public int quarrel(int day, int what) {
        if (!isDay(day) || what < 0 || what > 1) {
            return NONE;
        }
        Rules rules = rulesBy(day);
        int first = rules.firstQuarrel();
        return what == 0 ? first : rules.rival(first);
    }

    public int paid(int finder, int day) {
        if (!isFinder(finder) || !isDay(day)) {
            return NONE_SUCH;
        }
        Rules rules = rulesBy(day);
        int sum = 0;
        for (int f = 0; f < clues.count; f++) {
            if (clues.fact(f, FIND_FINDER) == finder && clues.isBelieved(f, day)) {
                sum += payFor(f, rules);
            }
        }
        return sum;
    }

    public int count(int what) {
        switch (what) {
            case 0: return today;
            case 1: return clues.count;
            case 2: return clues.countDoubted(today);
            case 3: return sea.iceCount;
            case 4: return clues.tellerCount;
            case 5: return fleet.count;
            case 6: return rulesCount;
            case 7: return rulesBy(today).size;
            case 8: return sea.landCount;
            case 9: return sea.homeCount;
            case 10: return row.count;
            case 11: return last;
            case 12: return hold;
            case 13: return tape.fed;
            case 14: return rulesBeside == null ? 0 : 1;
            default: return NONE;
        }
    }

    private static boolean isCell(int cell) {
        return cell >= 0 && cell < CELLS;
    }

    private static boolean isDay(int day) {
        return day >= 0 && day < DAYS;
    }

    private static boolean isYear(int year) {
        return year >= 0 && year < YEARS;
    }

    private static boolean isStep(int step) {
        return step >= 0 && step < STEPS;
    }

    private static boolean isFinder(int finder) {
        return finder >= 0 && finder < FINDERS;
    }

    private static boolean isHundredths(int n) {
        return n >= 0 && n <= HUNDRED;
    }

    private static boolean isAskedOfVoyage(int what) {
        return what >= 0 && what <= 4;
    }

    private static int far(int a, int b) {
        return Math.max(Math.abs(a / SIDE - b / SIDE), Math.abs(a % SIDE - b % SIDE));
    }

    private static int nextCell(int cell, int move) {
        if (!isCell(cell) || move < 0 || move >= MOVES) {
            return NONE;
        }
        int r = cell / SIDE + ROWS_OF_MOVE[move];
        int c = cell % SIDE + COLUMNS_OF_MOVE[move];
        return r >= 0 && r < SIDE && c >= 0 && c < SIDE ? r * SIDE + c : NONE;
    }

    /** The next cell to north, east, south or west (0 to 3). */
    private static int cellTowards(int cell, int direction) {
        return nextCell(cell, 1 + 2 * direction);
    }

    // A MASS of 1,000,000,000 a hundred times over doesn't go into an int.
    private static int hundredths(int mass, int n) {
        return (int) ((long) mass * n / HUNDRED);
    }

    private boolean isStepOfWays(int step) {
        return step >= 0 && step <= last;
    }

    /** At how many CELLS WAYS end that MEET all KEPT finds, are at pinCell on pinStep and never at the shunned CELL. */
    private int countEnds(int day, int pinCell, int pinStep, int shunned) {
        sea.readIce(day);
        clues.readKept(day, hold);
        ways.follow(last, pinCell, pinStep, shunned);
        return ways.countFull();
    }

    private Rules rulesBy(int day) {
        for (int i = rulesCount - 1; i >= 0; i--) {
            Rules rules = rulesTold[i];
            if (rules != null && rules.told <= day) {
                return rules;
            }
        }
        return noRules;
    }

    private int payFor(int find, Rules rules) {
        int step = clues.fact(find, FIND_FROM);
        Arrays.fill(asked, 0);
        asked[ASK_YEAR] = step / STEPS_A_YEAR;
        asked[ASK_STEP] = step;
        asked[ASK_REACH] = clues.fact(find, FIND_REACH);
        asked[ASK_TRUST] = clues.fact(find, FIND_TRUST);
        asked[ASK_FIRST] = clues.isFirstAtCell(find) ? 1 : 0;
        return rules.payOf(clues.fact(find, FIND_KIND), asked);
    }

    /** The CELLS: land, sea, HOME CELLS, and the ICE told. */
    private static final class Sea {
        private static final int ICE_MOST = 200;
        private final boolean[] isLand = new boolean[CELLS];
        private final boolean[] isHome = new boolean[CELLS];
        private final int[] iceCell = new int[ICE_MOST];
        private final int[] iceYear = new int[ICE_MOST];
        private final int[] iceDay = new int[ICE_MOST];
        private final boolean[] iceShut = new boolean[ICE_MOST];
        // A bit a YEAR of each CELL, for the DAY that readIce was called with.
        private final int[] shutYears = new int[CELLS];
        private int iceCount;
        private int landCount;
        private int homeCount;

        boolean isSea(int cell) {
            return isCell(cell) && !isLand[cell];
        }

        boolean isHomeCell(int cell) {
            return isCell(cell) && isHome[cell];
        }

        void tellLand(int cell, boolean is) {
            if (isCell(cell) && isLand[cell] != is) {
                isLand[cell] = is;
                landCount += is ? 1 : -1;
            }
        }

        void tellHome(int cell, boolean is) {
            if (isCell(cell) && isHome[cell] != is) {
                isHome[cell] = is;
                homeCount += is ? 1 : -1;
            }
        }

        int tellIce(int cell, int year, boolean isShut, int day) {
            if (iceCount >= ICE_MOST) {
                return NONE;
            }
            iceCell[iceCount] = cell;
            iceYear[iceCount] = year;
            iceShut[iceCount] = isShut;
            iceDay[iceCount] = day;
            iceCount++;
            return iceCount;
        }

        boolean isShut(int cell, int year, int day) {
            for (int i = iceCount - 1; i >= 0; i--) {
                if (iceDay[i] <= day && iceCell[i] == cell && iceYear[i] == year) {
                    return iceShut[i];
                }
            }
            return false;
        }

        void readIce(int day) {
            Arrays.fill(shutYears, 0);
            for (int i = 0; i < iceCount; i++) {
                int cell = iceCell[i];
                if (iceDay[i] <= day && isCell(cell)) {
                    int bit = 1 << iceYear[i];
                    shutYears[cell] = iceShut[i] ? shutYears[cell] | bit : shutYears[cell] & ~bit;
                }
            }
        }

        /** Whether it's sea that isn't SHUT in the YEAR of the STEP, by the DAY of readIce. */
        boolean isOpen(int cell, int step) {
            return isCell(cell) && !isLand[cell] && (shutYears[cell] >> step / STEPS_A_YEAR & 1) == 0;
        }

        /** Puts 1 for each CELL that others may GO to on the STEP, 0 for the rest. */
        void readGoals(int step, boolean anyCell, int[] goals) {
            for (int c = 0; c < CELLS && c < goals.length; c++) {
                goals[c] = anyCell || isOpen(c, step) ? 1 : 0;
            }
        }
    }

    /** The LOST as they are told. */
    private static final class Party {
        private int cell = 0;
        private int men = 1;
        private int food = 0;
        private int ashore = NONE;

        boolean walksOn(int step) {
            return ashore != NONE && step >= ashore;
        }
    }

    /** Finds, TELLERS and doubts, and which finds are KEPT. */
    private static final class Clues {
        private static final int FINDS_MOST = 40;
        private static final int TELLERS_MOST = 10;
        private static final int DOUBTS_MOST = 200;
        private static final int KEPT_MOST = 6;
        private final int[] facts = new int[FINDS_MOST * FACTS];
        private final int[] tellerTrust = new int[TELLERS_MOST];
        private final int[] tellerBy = new int[TELLERS_MOST];
        private final int[] doubtFind = new int[DOUBTS_MOST];
        private final int[] doubtDay = new int[DOUBTS_MOST];
        private final boolean[] doubtIs = new boolean[DOUBTS_MOST];
        private final int[] keptFinds = new int[KEPT_MOST];
        private final int[] bars = new int[FINDS_MOST];
        private int count;
        private int tellerCount;
        private int doubtCount;
        private int keptCount;
        private int barCount;

        boolean isFind(int find) {
            return find >= 0 && find < count;
        }

        boolean isFull() {
            return count >= FINDS_MOST;
        }

        boolean isTeller(int teller) {
            return teller >= 0 && teller < tellerCount;
        }

        boolean isReach(int kind, int n) {
            switch (kind) {
                case KIND_PAPER: return n == 0;
                case KIND_GRAVE: return n >= 0 && n <= 2;
                case KIND_TOLD: return n >= 0 && n <= 5;
                case KIND_BOUGHT: return n >= 0 && n <= 15;
                case KIND_NOTHING: return n >= 1 && n <= HUNDRED;
                default: return false;
            }
        }

        void write(int find, int what, int value) {
            if (find >= 0 && find < FINDS_MOST && what >= 0 && what < FACTS) {
                facts[find * FACTS + what] = value;
            }
        }

        int fact(int find, int what) {
            return find >= 0 && find < count && what >= 0 && what < FACTS ? facts[find * FACTS + what] : NONE;
        }

        int tellTeller(int trust, int by) {
            if (!isHundredths(trust) || by != NONE && !isTeller(by) || tellerCount >= TELLERS_MOST) {
                return NONE;
            }
            tellerTrust[tellerCount] = trust;
            tellerBy[tellerCount] = by;
            tellerCount++;
            return tellerCount - 1;
        }

        int trustThrough(int teller) {
            if (!isTeller(teller)) {
                return HUNDRED;
            }
            int trust = tellerTrust[teller];
            int by = tellerBy[teller];
            // Each one was told by one with a lesser number, so the chain ends within the TELLERS.
            for (int i = 0; i < TELLERS_MOST && isTeller(by); i++) {
                trust = hundredths(trust, tellerTrust[by]);
                by = tellerBy[by];
            }
            return trust;
        }

        boolean tellDoubt(int find, boolean is, int day) {
            if (doubtCount >= DOUBTS_MOST || isDoubted(find, day) == is) {
                return false;
            }
            doubtFind[doubtCount] = find;
            doubtIs[doubtCount] = is;
            doubtDay[doubtCount] = day;
            doubtCount++;
            return true;
        }

        boolean isDoubted(int find, int day) {
            for (int i = doubtCount - 1; i >= 0; i--) {
                if (doubtDay[i] <= day && doubtFind[i] == find) {
                    return doubtIs[i];
                }
            }
            return false;
        }

        int countDoubted(int day) {
            int sum = 0;
            for (int f = 0; f < count; f++) {
                sum += isDoubted(f, day) ? 1 : 0;
            }
            return sum;
        }

        /** Whether it's KNOWN by the DAY and isn't DOUBTED as KNOWN by it. */
        boolean isBelieved(int find, int day) {
            return isFind(find) && fact(find, FIND_DAY) <= day && !isDoubted(find, day);
        }

        // Finds are numbered as they are told, so those with a lesser number are KNOWN wherever this one is.
        boolean isFirstAtCell(int find) {
            for (int f = 0; f < find; f++) {
                if (fact(f, FIND_CELL) == fact(find, FIND_CELL)) {
                    return false;
                }
            }
            return true;
        }

        boolean isNothing(int find) {
            return fact(find, FIND_KIND) == KIND_NOTHING;
        }

        boolean isOnStep(int find, int step) {
            return step >= fact(find, FIND_FROM) && step <= fact(find, FIND_TO);
        }

        boolean isNear(int find, int cell) {
            return far(cell, fact(find, FIND_CELL)) <= fact(find, FIND_REACH);
        }

        void readKept(int day, int hold) {
            keptCount = 0;
            barCount = 0;
            for (int f = 0; f < count && f < FINDS_MOST; f++) {
                if (!isBelieved(f, day) || fact(f, FIND_TRUST) < hold) {
                    continue;
                }
                if (!isNothing(f)) {
                    keep(f);
                } else if (fact(f, FIND_REACH) == HUNDRED) {
                    bars[barCount] = f;
                    barCount++;
                }
            }
        }

        private void keep(int find) {
            if (keptCount < KEPT_MOST) {
                keptFinds[keptCount] = find;
                keptCount++;
            }
        }

        int keptFind(int i) {
            return i >= 0 && i < keptCount ? keptFinds[i] : NONE;
        }

        /** The CELL where nobody was on the STEP by the i-th KEPT find of KIND 4; NONE. */
        int barredCell(int i, int step) {
            return i >= 0 && i < barCount && isOnStep(bars[i], step) ? fact(bars[i], FIND_CELL) : NONE;
        }

        boolean isBarred(int cell, int step) {
            for (int i = 0; i < barCount; i++) {
                if (barredCell(i, step) == cell) {
                    return true;
                }
            }
            return false;
        }
    }

    /** The told ROW of moves. */
    private static final class Row {
        private static final int MOVES_MOST = 119;
        private static final int AGAINST_FIND = 1000;
        private final Sea sea;
        private final Party party;
        private final Clues clues;
        private final int[] moves = new int[MOVES_MOST];
        private final int[] cells = new int[STEPS];
        private int count;

        Row(Sea sea, Party party, Clues clues) {
            this.sea = sea;
            this.party = party;
            this.clues = clues;
        }

        int add(int to) {
            if (to < 0 || to >= MOVES || count >= MOVES_MOST) {
                return NONE;
            }
            moves[count] = to;
            count++;
            return count;
        }

        int empty() {
            int had = count;
            count = 0;
            return had;
        }

        /** What stands against the ROW, by the ice and the KEPT finds that were read last. */
        int firstAgainst() {
            int step = firstWrongStep();
            if (step != NONE) {
                return step;
            }
            for (int i = 0; i < clues.keptCount; i++) {
                int find = clues.keptFind(i);
                if (!doesMeet(find)) {
                    return AGAINST_FIND + find;
                }
            }
            return NONE;
        }

        private int firstWrongStep() {
            int cell = party.cell;
            for (int step = 0; step <= count && step < STEPS; step++) {
                if (step > 0) {
                    cell = cellAfter(cell, moves[step - 1], step);
                }
                if (cell == NONE || clues.isBarred(cell, step)) {
                    return step;
                }
                cells[step] = cell;
            }
            return NONE;
        }

        /** The CELL that the move leads to on the STEP, NONE if they may not GO there. */
        private int cellAfter(int cell, int move, int step) {
            int to = nextCell(cell, move);
            return to == cell || party.walksOn(step) || sea.isOpen(to, step) ? to : NONE;
        }

        private boolean doesMeet(int find) {
            for (int step = 0; step <= count && step < STEPS; step++) {
                if (clues.isOnStep(find, step) && clues.isNear(find, cells[step])) {
                    return true;
                }
            }
            return false;
        }
    }

    /**
     * All WAYS at once: for each CELL the sets of KEPT finds that the ways which are there have met.
     * Six finds have 64 sets, so a long holds them: bit s stands for the set that is the number s.
     */
    private static final class Ways {
        private static final int SETS = 64;
        // The sets that have the find 0, 1, .. 5 in them.
        private static final long[] SETS_WITH = {
            0xAAAAAAAAAAAAAAAAL, 0xCCCCCCCCCCCCCCCCL, 0xF0F0F0F0F0F0F0F0L,
            0xFF00FF00FF00FF00L, 0xFFFF0000FFFF0000L, 0xFFFFFFFF00000000L
        };
        private final Sea sea;
        private final Party party;
        private final Clues clues;
        private final long[] sets = new long[CELLS];
        private final long[] across = new long[CELLS];
        private final int[] goals = new int[CELLS];

        Ways(Sea sea, Party party, Clues clues) {
            this.sea = sea;
            this.party = party;
            this.clues = clues;
        }

        /** Follows all WAYS that are at pinCell on pinStep and never at the shunned CELL (each may be NONE). */
        void follow(int last, int pinCell, int pinStep, int shunned) {
            Arrays.fill(sets, 0L);
            if (isCell(party.cell)) {
                sets[party.cell] = 1L;
            }
            for (int step = 0; step <= last; step++) {
                if (step > 0) {
                    spread(step);
                }
                if (step == pinStep) {
                    dropAllBut(pinCell);
                }
                drop(shunned);
                for (int i = 0; i < clues.barCount; i++) {
                    drop(clues.barredCell(i, step));
                }
                for (int i = 0; i < clues.keptCount; i++) {
                    meet(i, step);
                }
            }
        }

        private void spread(int step) {
            sea.readGoals(step, party.walksOn(step), goals);
            for (int c = 0; c < CELLS; c++) {
                long west = c % SIDE > 0 ? sets[c - 1] : 0L;
                long east = c % SIDE < SIDE - 1 ? sets[c + 1] : 0L;
                across[c] = west | sets[c] | east;
            }
            for (int c = 0; c < CELLS; c++) {
                if (goals[c] == 1) {
                    long north = c >= SIDE ? across[c - SIDE] : 0L;
                    long south = c + SIDE < CELLS ? across[c + SIDE] : 0L;
                    sets[c] = north | across[c] | south;
                }
            }
        }

        private void drop(int cell) {
            if (isCell(cell)) {
                sets[cell] = 0L;
            }
        }

        private void dropAllBut(int cell) {
            for (int c = 0; c < CELLS; c++) {
                if (c != cell) {
                    sets[c] = 0L;
                }
            }
        }

        private void meet(int i, int step) {
            int find = clues.keptFind(i);
            if (!clues.isOnStep(find, step)) {
                return;
            }
            for (int c = 0; c < CELLS; c++) {
                if (clues.isNear(find, c)) {
                    sets[c] = withFind(sets[c], i);
                }
            }
        }

        private long withFind(long old, int i) {
            if (i < 0 || i >= SETS_WITH.length) {
                return old;
            }
            long with = SETS_WITH[i];
            return old & with | (old & ~with) << (1 << i);
        }

        /** At how many CELLS ways end that met all KEPT finds. */
        int countFull() {
            int all = (1 << clues.keptCount) - 1;
            int sum = 0;
            for (int c = 0; c < CELLS; c++) {
                sum += (int) (sets[c] >>> all & 1L);
            }
            return sum;
        }

        /** The greatest set that a WAY met, the least as a number of several; NONE without a WAY. */
        int mostMet() {
            long any = 0L;
            for (int c = 0; c < CELLS; c++) {
                any |= sets[c];
            }
            int most = NONE;
            for (int set = 0; set < SETS; set++) {
                if ((any >>> set & 1L) == 1L && (most == NONE || Integer.bitCount(set) > Integer.bitCount(most))) {
                    most = set;
                }
            }
            return most;
        }
    }

    /** The MASS of each CELL on a STEP. */
    private static final class Masses {
        private static final int MASS_OF_ALL = 1000000000;
        private final Sea sea;
        private final Party party;
        private final Clues clues;
        private final int[] mass = new int[CELLS];
        private final int[] share = new int[CELLS];
        private final int[] goals = new int[CELLS];
        private final int[] across = new int[CELLS];
        private final int[] around = new int[CELLS];

        Masses(Sea sea, Party party, Clues clues) {
            this.sea = sea;
            this.party = party;
            this.clues = clues;
        }

        int massAt(int day, int cell, int step, int without) {
            follow(day, step, without);
            return isCell(cell) ? mass[cell] : NONE;
        }

        int all() {
            int sum = 0;
            for (int c = 0; c < CELLS; c++) {
                sum += mass[c];
            }
            return sum;
        }

        /** Moves the MASS up to the STEP, with all finds but one (NONE: with all). */
        void follow(int day, int step, int without) {
            sea.readIce(day);
            Arrays.fill(mass, 0);
            if (isCell(party.cell)) {
                mass[party.cell] = MASS_OF_ALL;
            }
            for (int s = 1; s <= step; s++) {
                part(s);
                for (int f = 0; f < clues.count; f++) {
                    if (f != without && clues.isOnStep(f, s) && clues.isBelieved(f, day)) {
                        lessen(f, s);
                    }
                }
            }
        }

        private void part(int step) {
            sea.readGoals(step, party.walksOn(step), goals);
            sumAround(goals);
            for (int c = 0; c < CELLS; c++) {
                // To stay is always allowed, so the CELL itself counts once, open or not.
                int ways = Math.max(1, around[c] - goals[c] + 1);
                share[c] = mass[c] / ways;
                mass[c] -= share[c] * (ways - 1);
            }
            sumAround(share);
            for (int c = 0; c < CELLS; c++) {
                if (goals[c] == 1) {
                    mass[c] += around[c] - share[c];
                }
            }
        }

        /** Puts into around what each CELL and those beside it have together. */
        private void sumAround(int[] of) {
            for (int c = 0; c < CELLS && c < of.length; c++) {
                int west = c % SIDE > 0 ? of[c - 1] : 0;
                int east = c % SIDE < SIDE - 1 && c + 1 < of.length ? of[c + 1] : 0;
                across[c] = west + of[c] + east;
            }
            for (int c = 0; c < CELLS; c++) {
                int north = c >= SIDE ? across[c - SIDE] : 0;
                int south = c + SIDE < CELLS ? across[c + SIDE] : 0;
                around[c] = north + across[c] + south;
            }
        }

        private void lessen(int find, int step) {
            if (clues.isNothing(find)) {
                lessenCell(clues.fact(find, FIND_CELL), clues.fact(find, FIND_REACH));
            } else if (step == clues.fact(find, FIND_TO)) {
                for (int c = 0; c < CELLS; c++) {
                    if (!clues.isNear(find, c)) {
                        lessenCell(c, clues.fact(find, FIND_TRUST));
                    }
                }
            }
        }

        private void lessenCell(int cell, int by) {
            if (isCell(cell)) {
                mass[cell] = hundredths(mass[cell], HUNDRED - by);
            }
        }
    }

    /** The SHIPS, and the CELLS at which they find most. */
    private static final class Fleet {
        private static final int SHIPS_MOST = 4;
        private static final int RANGE_MOST = 20;
        // The other SHIPS take three CELLS at most: the best row has of each SHIP one of its four best.
        private static final int TOPS = 4;
        private final Sea sea;
        private final int[] harbour = new int[SHIPS_MOST];
        private final int[] range = new int[SHIPS_MOST];
        private final int[] well = new int[SHIPS_MOST];
        private final int[] moves = new int[CELLS];
        private final int[] queue = new int[CELLS];
        private final int[] topCell = new int[SHIPS_MOST * TOPS];
        private final int[] topValue = new int[SHIPS_MOST * TOPS];
        private final int[] topCount = new int[SHIPS_MOST];
        private final int[] row = new int[SHIPS_MOST];
        private final int[] bestRow = new int[SHIPS_MOST];
        private int bestSum;
        private int count;

        Fleet(Sea sea) {
            this.sea = sea;
        }

        boolean isShip(int ship) {
            return ship >= 0 && ship < count && ship < SHIPS_MOST;
        }

        int add(int cell, int far, int looks) {
            boolean told = isCell(cell) && far >= 0 && far <= RANGE_MOST && looks >= 1 && looks <= HUNDRED;
            if (!told || count >= SHIPS_MOST) {
                return NONE;
            }
            harbour[count] = cell;
            range[count] = far;
            well[count] = looks;
            count++;
            return count - 1;
        }

        int movesTo(int ship, int cell, int step) {
            sail(ship, step);
            return isCell(cell) ? moves[cell] : NONE;
        }

        /** Puts into moves how many the SHIP needs to each CELL, NONE where it doesn't come. */
        private void sail(int ship, int step) {
            Arrays.fill(moves, NONE);
            if (!isShip(ship) || !isCell(harbour[ship])) {
                return;
            }
            moves[harbour[ship]] = 0;
            queue[0] = harbour[ship];
            int tail = 1;
            for (int head = 0; head < tail && head < CELLS; head++) {
                int from = queue[head];
                if (isCell(from) && moves[from] < range[ship]) {
                    tail = sailOn(from, step, tail);
                }
            }
        }

        /** Comes to all CELLS beside one, queues those that lead on, and answers the queue's new end. */
        private int sailOn(int from, int step, int tail) {
            int end = tail;
            for (int m = 1; m < MOVES; m++) {
                int to = nextCell(from, m);
                boolean open = sea.isOpen(to, step);
                if (isCell(to) && moves[to] == NONE && (open || !sea.isSea(to))) {
                    moves[to] = moves[from] + 1;
                    if (open && end < CELLS) {
                        queue[end] = to;
                        end++;
                    }
                }
            }
            return end;
        }

        /** Finds the best row by the MASS of each CELL; bestSum is NONE without one. */
        void choose(int[] mass, int step) {
            bestSum = NONE;
            if (count == 0) {
                return;
            }
            int picks = 1;
            for (int ship = 0; ship < count; ship++) {
                sail(ship, step);
                readTops(ship, mass);
                picks *= TOPS;
            }
            for (int pick = 0; pick < picks; pick++) {
                int sum = sumOf(pick);
                if (sum != NONE && (sum > bestSum || sum == bestSum && isRowLess())) {
                    bestSum = sum;
                    System.arraycopy(row, 0, bestRow, 0, count);
                }
            }
        }

        private void readTops(int ship, int[] mass) {
            topCount[ship] = 0;
            for (int c = 0; c < CELLS && c < mass.length; c++) {
                if (moves[c] != NONE) {
                    putTop(ship, c, hundredths(mass[c], well[ship]));
                }
            }
        }

        // CELLS come here from the least on, so of several alike the least stands first.
        private void putTop(int ship, int cell, int value) {
            int first = ship * TOPS;
            int place = topCount[ship];
            while (place > 0 && topValue[first + place - 1] < value) {
                place--;
            }
            if (place >= TOPS) {
                return;
            }
            for (int i = Math.min(topCount[ship], TOPS - 1); i > place; i--) {
                topCell[first + i] = topCell[first + i - 1];
                topValue[first + i] = topValue[first + i - 1];
            }
            topCell[first + place] = cell;
            topValue[first + place] = value;
            topCount[ship] = Math.min(topCount[ship] + 1, TOPS);
        }

        /** Puts into row what the pick (a digit below four for each SHIP) means; its sum, NONE if it's no row. */
        private int sumOf(int pick) {
            int rest = pick;
            int sum = 0;
            for (int ship = 0; ship < count; ship++) {
                int top = rest % TOPS;
                rest /= TOPS;
                if (top >= topCount[ship]) {
                    return NONE;
                }
                row[ship] = topCell[ship * TOPS + top];
                if (isTaken(row[ship], ship)) {
                    return NONE;
                }
                sum += topValue[ship * TOPS + top];
            }
            return sum;
        }

        private boolean isTaken(int cell, int ships) {
            for (int ship = 0; ship < ships; ship++) {
                if (row[ship] == cell) {
                    return true;
                }
            }
            return false;
        }

        private boolean isRowLess() {
            for (int ship = 0; ship < count; ship++) {
                if (row[ship] != bestRow[ship]) {
                    return row[ship] < bestRow[ship];
                }
            }
            return false;
        }

        int bestCell(int ship) {
            return isShip(ship) && bestSum != NONE ? bestRow[ship] : NONE;
        }
    }

    /** What the LOST would do by RULES. */
    private static final class Voyage {
        private final Sea sea;
        private final Party party;
        private final int[] asked = new int[ASKED];
        private final int[] cells = new int[STEPS];
        private int cell;
        private int men;
        private int food;
        private boolean afoot;
        private int saved;

        Voyage(Sea sea, Party party) {
            this.sea = sea;
            this.party = party;
        }

        void embark() {
            cell = party.cell;
            men = party.men;
            food = party.food;
            afoot = false;
            saved = NONE;
        }

        void eat() {
            if (food >= men) {
                food -= men;
            } else {
                food = 0;
                men -= men / 10 + 1;
            }
        }

        /** Obeys the RULES up to LAST, by the ice that was read last. */
        void sail(Rules rules, int last) {
            embark();
            arrive(0);
            for (int step = 1; step <= last && step < STEPS; step++) {
                eat();
                if (men > 0) {
                    obey(rules, step);
                }
                arrive(step);
            }
        }

        private void arrive(int step) {
            cells[step] = cell;
            if (saved == NONE && men > 0 && sea.isHomeCell(cell)) {
                saved = step;
            }
        }

        private void obey(Rules rules, int step) {
            readAsked(step);
            int line = rules.firstOrder(asked);
            int to = cellTowards(cell, rules.part(line, Rules.AIM));
            switch (rules.part(line, Rules.ACT)) {
                case Tape.LEAVE:
                    afoot = true;
                    break;
                case Tape.GO:
                    cell = !afoot && sea.isOpen(to, step) ? to : cell;
                    break;
                case Tape.WALK:
                    cell = afoot && isCell(to) ? to : cell;
                    break;
                default:
                    break;
            }
        }

        private void readAsked(int step) {
            Arrays.fill(asked, 0);
            asked[ASK_YEAR] = step / STEPS_A_YEAR;
            asked[ASK_STEP] = step;
            asked[ASK_FOOD] = food;
            asked[ASK_MEN] = men;
            for (int d = 0; d < DIRECTIONS; d++) {
                asked[ASK_NORTH + d] = sea.isOpen(cellTowards(cell, d), step) ? 1 : 0;
            }
            asked[ASK_AFOOT] = afoot ? 1 : 0;
        }

        int cellOn(int step) {
            return isStep(step) ? cells[step] : NONE_SUCH;
        }

        int answer(int what) {
            switch (what) {
                case 0: return cell;
                case 1: return men;
                case 2: return food;
                case 3: return afoot ? 1 : 0;
                case 4: return saved;
                default: return NONE_SUCH;
            }
        }
    }

    /** RULES as read: their statements, and what these ask in the order in which it's worked out. */
    private static final class Rules {
        // The parts of a statement: what is done, where to or for which KIND, how much, and its code.
        private static final int ACT = 0;
        private static final int AIM = 1;
        private static final int SUM = 2;
        private static final int CODE_FROM = 3;
        private static final int CODE_TO = 4;
        private static final int PARTS = 5;
        // A code is one of these, or a word asked, a sign and a number as Reader.readComparison puts them into one.
        private static final int CODE_AND = -1;
        private static final int CODE_OR = -2;
        private static final int CODE_NOT = -3;
        private final int told;
        private final int size;
        private final int[] lines;
        private final int[] code;

        Rules(int told, int size, int[] lines, int[] code) {
            this.told = told;
            this.size = size;
            this.lines = lines;
            this.code = code;
        }

        int part(int line, int what) {
            int place = line * PARTS + what;
            return line >= 0 && line < size && what >= 0 && what < PARTS && place < lines.length
                ? lines[place] : NONE;
        }

        private boolean isPay(int line) {
            return part(line, ACT) == Tape.PAY;
        }

        private boolean hasCondition(int line) {
            return part(line, CODE_FROM) < part(line, CODE_TO);
        }

        // The truths stand in the bits of a long, the latest lowest: ten open ones in one another leave 23 at most.
        private boolean holds(int line, int[] asked) {
            if (!hasCondition(line)) {
                return true;
            }
            long truths = 0L;
            int to = part(line, CODE_TO);
            for (int i = Math.max(0, part(line, CODE_FROM)); i < to && i < code.length; i++) {
                switch (code[i]) {
                    case CODE_AND:
                        truths = truths >>> 1 & (truths | ~1L);
                        break;
                    case CODE_OR:
                        truths = truths >>> 1 | truths & 1L;
                        break;
                    case CODE_NOT:
                        truths ^= 1L;
                        break;
                    default:
                        truths = truths << 1 | (isTrue(code[i], asked) ? 1L : 0L);
                        break;
                }
            }
            return (truths & 1L) == 1L;
        }

        private boolean isTrue(int comparison, int[] asked) {
            int number = comparison % Tape.NUMBERS;
            int sign = comparison / Tape.NUMBERS % Tape.COMPARISONS;
            int word = comparison / Tape.NUMBERS / Tape.COMPARISONS;
            if (word < 0 || word >= asked.length) {
                return false;
            }
            switch (sign) {
                case 0: return asked[word] < number;
                case 1: return asked[word] > number;
                default: return asked[word] == number;
            }
        }

        int firstOrder(int[] asked) {
            for (int line = 0; line < size; line++) {
                if (!isPay(line) && holds(line, asked)) {
                    return line;
                }
            }
            return NONE;
        }

        int payOf(int kind, int[] asked) {
            for (int line = 0; line < size; line++) {
                if (isPay(line) && part(line, AIM) == kind && holds(line, asked)) {
                    return part(line, SUM);
                }
            }
            return 0;
        }

        int firstQuarrel() {
            for (int line = 0; line < size; line++) {
                if (rival(line) != NONE) {
                    return line;
                }
            }
            return NONE;
        }

        /** The next "pay" for the same KIND, both without "if"; NONE. */
        int rival(int line) {
            if (!isPay(line) || hasCondition(line)) {
                return NONE;
            }
            for (int other = line + 1; other < size; other++) {
                if (isPay(other) && !hasCondition(other) && part(other, AIM) == part(line, AIM)) {
                    return other;
                }
            }
            return NONE;
        }
    }

    /** The bytes fed, and the tokens of a text among them. */
    private static final class Tape {
        private static final int BYTES_MOST = 700;
        private static final int FEED = 20;
        private static final int DIGITS_MOST = 5;
        // Tokens are told by numbers: a word's place in WORDS, SIGN and a sign's place in SIGNS, NUMBER and a number.
        private static final String WORDS = "year step food men north east south west afoot reach trust first paper grave told bought nothing go walk stay leave pay for if and or not ";
        private static final String SIGNS = ";()<>=";
        private static final int NORTH = 4;
        private static final int PAPER = 12;
        private static final int KINDS = 5;
        private static final int GO = 17;
        private static final int WALK = 18;
        private static final int STAY = 19;
        private static final int LEAVE = 20;
        private static final int PAY = 21;
        private static final int FOR = 22;
        private static final int IF = 23;
        private static final int AND = 24;
        private static final int OR = 25;
        private static final int NOT = 26;
        private static final int SIGN = 30;
        private static final int ENDED = 30;
        private static final int OPENED = 31;
        private static final int CLOSED = 32;
        private static final int LESS = 33;
        private static final int COMPARISONS = 3;
        private static final int TEXT_END = 40;
        private static final int UNKNOWN = 41;
        private static final int NUMBER = 1000;
        private static final int NUMBERS = 100000;
        private final byte[] bytes = new byte[BYTES_MOST];
        // The text's end comes behind the other tokens, so there may be one more than bytes.
        private final int[] tokens = new int[BYTES_MOST + 1];
        private final int[] places = new int[BYTES_MOST + 1];
        private int tokenCount;
        private int fed;

        boolean hasRoom() {
            return fed + FEED <= BYTES_MOST;
        }

        boolean hasFed(int n) {
            return n >= 0 && n <= fed;
        }

        void put(int value) {
            for (int shift = 24; shift >= 0 && fed < BYTES_MOST; shift -= 8) {
                bytes[fed] = (byte) (value >>> shift);
                fed++;
            }
        }

        /** Reads the first n bytes into tokens and empties the tape. */
        void scan(int n) {
            int end = Math.max(0, Math.min(n, fed));
            int place = 0;
            tokenCount = 0;
            while (place < end) {
                int next = Math.max(place + 1, endOfRun(place, end));
                if (!isBlank(bytes[place])) {
                    addToken(tokenOf(place, next), place);
                }
                place = next;
            }
            addToken(TEXT_END, end);
            fed = 0;
        }

        int tokenAt(int i) {
            return i >= 0 && i < tokenCount ? tokens[i] : TEXT_END;
        }

        int placeOf(int i) {
            return i >= 0 && i < tokenCount ? places[i] : NONE;
        }

        private void addToken(int token, int place) {
            if (tokenCount < tokens.length) {
                tokens[tokenCount] = token;
                places[tokenCount] = place;
                tokenCount++;
            }
        }

        /** Where the letters or the digits that begin at a place end; the place itself, if neither does. */
        private int endOfRun(int from, int end) {
            int to = from;
            boolean letters = isLetter(bytes[from]);
            while (to < end && (letters ? isLetter(bytes[to]) : isDigit(bytes[to]))) {
                to++;
            }
            return to;
        }

        private int tokenOf(int from, int to) {
            if (isLetter(bytes[from])) {
                return wordOf(from, to);
            }
            if (isDigit(bytes[from])) {
                return to - from <= DIGITS_MOST ? NUMBER + numberOf(from, to) : UNKNOWN;
            }
            int sign = SIGNS.indexOf((char) (bytes[from] & 255));
            return sign >= 0 ? SIGN + sign : UNKNOWN;
        }

        private int numberOf(int from, int to) {
            int number = 0;
            for (int i = from; i < to; i++) {
                number = number * 10 + (bytes[i] - '0');
            }
            return number;
        }

        private int wordOf(int from, int to) {
            int word = 0;
            int first = 0;
            for (int i = 0; i < WORDS.length(); i++) {
                if (WORDS.charAt(i) == ' ') {
                    if (to - from == i - first && isSpelt(from, first, to - from)) {
                        return word;
                    }
                    word++;
                    first = i + 1;
                }
            }
            return UNKNOWN;
        }

        /** Whether so many bytes from a place are those signs of WORDS from another. */
        private boolean isSpelt(int from, int first, int length) {
            for (int i = 0; i < length; i++) {
                if (WORDS.charAt(first + i) != (char) (bytes[from + i] & 255)) {
                    return false;
                }
            }
            return true;
        }

        private static boolean isBlank(byte b) {
            return b == ' ' || b == '\n';
        }

        private static boolean isLetter(byte b) {
            return b >= 'a' && b <= 'z';
        }

        private static boolean isDigit(byte b) {
            return b >= '0' && b <= '9';
        }
    }

    /** Reads RULES token by token. Each read.. answers whether the text goes on; if not, it stays at the FAULT. */
    private static final class Reader {
        private static final int LINES_MOST = 30;
        private static final int OPEN_MOST = 10;
        private final Tape tape;
        private final int[] lines = new int[LINES_MOST * Rules.PARTS];
        private final int[] code = new int[Tape.BYTES_MOST];
        private int at;
        private int token;
        private int lineCount;
        private int codeCount;
        private int fault = NONE;

        Reader(Tape tape) {
            this.tape = tape;
        }

        /** The first n bytes of the tape as RULES told on a day; null with a FAULT. */
        Rules take(int n, int day) {
            tape.scan(n);
            at = 0;
            token = tape.tokenAt(0);
            lineCount = 0;
            codeCount = 0;
            boolean good = true;
            for (int i = 0; i < LINES_MOST && good && token != Tape.TEXT_END; i++) {
                good = readLine();
            }
            good = good && token == Tape.TEXT_END;
            fault = good ? NONE : tape.placeOf(at);
            if (!good) {
                return null;
            }
            int[] linesRead = Arrays.copyOf(lines, lineCount * Rules.PARTS);
            return new Rules(day, lineCount, linesRead, Arrays.copyOf(code, codeCount));
        }

        private boolean readLine() {
            if (lineCount >= LINES_MOST) {
                return false;
            }
            int first = lineCount * Rules.PARTS;
            lines[first + Rules.ACT] = token;
            if (!readRule(first)) {
                return false;
            }
            lines[first + Rules.CODE_FROM] = codeCount;
            if (skip(Tape.IF, 1) && !readAny(0) || !skip(Tape.ENDED, 1)) {
                return false;
            }
            lines[first + Rules.CODE_TO] = codeCount;
            lineCount++;
            return true;
        }

        private boolean readRule(int first) {
            int aim = NONE;
            int sum = 0;
            if (skip(Tape.GO, 1) || skip(Tape.WALK, 1)) {
                aim = token - Tape.NORTH;
                if (!skip(Tape.NORTH, DIRECTIONS)) {
                    return false;
                }
            } else if (skip(Tape.PAY, 1)) {
                sum = token - Tape.NUMBER;
                if (!skip(Tape.NUMBER, Tape.NUMBERS) || !skip(Tape.FOR, 1)) {
                    return false;
                }
                aim = token - Tape.PAPER;
                if (!skip(Tape.PAPER, Tape.KINDS)) {
                    return false;
                }
            } else if (!skip(Tape.STAY, 1) && !skip(Tape.LEAVE, 1)) {
                return false;
            }
            lines[first + Rules.AIM] = aim;
            lines[first + Rules.SUM] = sum;
            return true;
        }

        private boolean readAny(int open) {
            if (!readAll(open)) {
                return false;
            }
            for (int i = 0; i < Tape.BYTES_MOST && skip(Tape.OR, 1); i++) {
                if (!readAll(open)) {
                    return false;
                }
                putCode(Rules.CODE_OR);
            }
            return true;
        }

        private boolean readAll(int open) {
            if (!readOne(open)) {
                return false;
            }
            for (int i = 0; i < Tape.BYTES_MOST && skip(Tape.AND, 1); i++) {
                if (!readOne(open)) {
                    return false;
                }
                putCode(Rules.CODE_AND);
            }
            return true;
        }

        private boolean readOne(int open) {
            if (token != Tape.NOT && token != Tape.OPENED) {
                return readComparison();
            }
            if (open >= OPEN_MOST) {
                return false;
            }
            if (skip(Tape.OPENED, 1)) {
                return readAny(open + 1) && skip(Tape.CLOSED, 1);
            }
            if (!skip(Tape.NOT, 1) || !readOne(open + 1)) {
                return false;
            }
            putCode(Rules.CODE_NOT);
            return true;
        }

        private boolean readComparison() {
            int word = token;
            if (!skip(ASK_YEAR, ASKED)) {
                return false;
            }
            int sign = token - Tape.LESS;
            if (!skip(Tape.LESS, Tape.COMPARISONS)) {
                return false;
            }
            int number = token - Tape.NUMBER;
            if (!skip(Tape.NUMBER, Tape.NUMBERS)) {
                return false;
            }
            putCode((word * Tape.COMPARISONS + sign) * Tape.NUMBERS + number);
            return true;
        }

        private void putCode(int value) {
            if (codeCount < code.length) {
                code[codeCount] = value;
                codeCount++;
            }
        }

        /** Goes on to the next token, if this is one of so many from the first on. */
        private boolean skip(int first, int many) {
            if (token < first || token >= first + many) {
                return false;
            }
            at++;
            token = tape.tokenAt(at);
            return true;
        }
    }
}
