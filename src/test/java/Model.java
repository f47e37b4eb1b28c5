import java.util.ArrayDeque;
import java.util.ArrayList;
import java.util.Arrays;
import java.util.HashMap;
import java.util.HashSet;
import java.util.List;
import java.util.Map;
import java.util.Set;
import java.util.TreeMap;
import java.util.TreeSet;

/** The document told a second time, slowly and with the Java library, to hold IceSearch against. */
final class Model {
    private record Ice(int cell, int year, boolean shut, int day) { }

    private record Teller(int trust, int by) { }

    private record Find(int number, int kind, int cell, int a, int b, int n, int teller, int finder, int trust,
        int day) { }

    private record Doubt(int find, boolean is, int day) { }

    private record Ship(int home, int range, int well) { }

    private record Told(ModelRules rules, int day) { }

    private record Spot(int cell, int set) { }

    private int today = 0;
    private final Set<Integer> lands = new TreeSet<>();
    private final Set<Integer> homes = new TreeSet<>();
    private int start = 0;
    private int men = 1;
    private int food = 0;
    private int ashore = -1;
    private int last = 0;
    private int hold = 50;
    private final List<Ice> ices = new ArrayList<>();
    private final List<Teller> tellers = new ArrayList<>();
    private final List<Find> finds = new ArrayList<>();
    private final List<Doubt> doubts = new ArrayList<>();
    private final List<Integer> moves = new ArrayList<>();
    private final List<Ship> ships = new ArrayList<>();
    private final StringBuilder tape = new StringBuilder();
    private final List<Told> told = new ArrayList<>();
    private ModelRules besides = null;
    private int fault = -1;

    private static boolean in(int x, int from, int to) {
        return from <= x && x <= to;
    }

    boolean day(int d) {
        if (d > today && d <= 999) {
            today = d;
            return true;
        }
        return false;
    }

    boolean land(int cell, boolean is) {
        if (!in(cell, 0, 255) || cell == start) {
            return false;
        }
        if (is) {
            lands.add(cell);
        } else {
            lands.remove(cell);
        }
        return true;
    }

    boolean lost(int cell, int m, int f, int a) {
        if (!in(cell, 0, 255) || lands.contains(cell) || !in(m, 1, 200) || !in(f, 0, 99999) || !in(a, -1, 119)) {
            return false;
        }
        start = cell;
        men = m;
        food = f;
        ashore = a;
        return true;
    }

    boolean set(int l, int h) {
        if (!in(l, 0, 119) || !in(h, 0, 100)) {
            return false;
        }
        last = l;
        hold = h;
        return true;
    }

    int ice(int cell, int year, boolean shut) {
        if (!in(cell, 0, 255) || !in(year, 0, 11) || ices.size() == 200) {
            return -1;
        }
        ices.add(new Ice(cell, year, shut, today));
        return ices.size();
    }

    int shut(int cell, int year, int day) {
        if (!in(cell, 0, 255) || !in(year, 0, 11) || !in(day, 0, 999)) {
            return -1;
        }
        return isShut(cell, year, day) ? 1 : 0;
    }

    private boolean isShut(int cell, int year, int day) {
        boolean is = false;
        for (Ice i : ices) {
            if (i.cell == cell && i.year == year && i.day <= day) {
                is = i.shut;
            }
        }
        return is;
    }

    int teller(int trust, int by) {
        if (!in(trust, 0, 100) || !in(by, -1, tellers.size() - 1) || tellers.size() == 10) {
            return -1;
        }
        tellers.add(new Teller(trust, by));
        return tellers.size() - 1;
    }

    int find(int kind, int cell, int a, int b, int n, int teller, int finder) {
        if (!in(kind, 0, 4) || !in(cell, 0, 255) || !in(a, 0, b) || !in(b, 0, 119) || !in(finder, 0, 9)) {
            return -1;
        }
        int[] most = {0, 2, 5, 15, 100};
        if (!in(n, kind == 4 ? 1 : 0, most[kind]) || !in(teller, -1, tellers.size() - 1) || finds.size() == 40) {
            return -1;
        }
        int trust = teller == -1 ? 100 : tellers.get(teller).trust;
        if (teller != -1) {
            for (int t = tellers.get(teller).by; t != -1; t = tellers.get(t).by) {
                trust = trust * tellers.get(t).trust / 100;
            }
        }
        finds.add(new Find(finds.size(), kind, cell, a, b, n, teller, finder, trust, today));
        return finds.size() - 1;
    }

    private boolean doubted(int find, int day) {
        boolean is = false;
        for (Doubt d : doubts) {
            if (d.find == find && d.day <= day) {
                is = d.is;
            }
        }
        return is;
    }

    boolean doubt(int find, boolean is) {
        if (!in(find, 0, finds.size() - 1) || doubted(find, today) == is || doubts.size() == 200) {
            return false;
        }
        doubts.add(new Doubt(find, is, today));
        return true;
    }

    int found(int find, int what) {
        if (!in(find, 0, finds.size() - 1) || !in(what, 0, 9)) {
            return -2;
        }
        Find f = finds.get(find);
        int doubt = doubted(find, today) ? 1 : 0;
        return new int[] {f.kind, f.cell, f.a, f.b, f.n, f.teller, f.finder, f.trust, f.day, doubt}[what];
    }

    private List<Find> believed(int day) {
        List<Find> all = new ArrayList<>();
        for (Find f : finds) {
            if (f.day <= day && !doubted(f.number, day)) {
                all.add(f);
            }
        }
        return all;
    }

    private List<Find> keptOnes(int day) {
        List<Find> all = new ArrayList<>();
        for (Find f : believed(day)) {
            if (f.kind < 4 && f.trust >= hold && all.size() < 6) {
                all.add(f);
            }
        }
        return all;
    }

    private List<Find> nothings(int day) {
        List<Find> all = new ArrayList<>();
        for (Find f : believed(day)) {
            if (f.kind == 4 && f.trust >= hold && f.n == 100) {
                all.add(f);
            }
        }
        return all;
    }

    int kept(int day, int what) {
        if (!in(day, 0, 999)) {
            return -1;
        }
        List<Find> kept = keptOnes(day);
        if (what == 0) {
            return kept.size();
        }
        if (what == 1) {
            return nothings(day).size();
        }
        return in(what, 10, 9 + kept.size()) ? kept.get(what - 10).number : -1;
    }

    private static int far(int a, int b) {
        return Math.max(Math.abs(a / 16 - b / 16), Math.abs(a % 16 - b % 16));
    }

    /** Where they may GO to from a CELL, to be there on a STEP. */
    private List<Integer> goals(int from, int step, int day) {
        List<Integer> all = new ArrayList<>();
        for (int to = 0; to < 256; to++) {
            boolean walks = ashore != -1 && step >= ashore;
            boolean open = !lands.contains(to) && !isShut(to, step / 10, day);
            if (to == from || far(from, to) == 1 && (walks || open)) {
                all.add(to);
            }
        }
        return all;
    }

    /** All that a WAY can be at the end (where, and which KEPT it met), for ways that the sieve lets through. */
    private Set<Spot> ends(int day, int pinCell, int pinStep, int shunned) {
        if (last <= 3) {
            Set<Spot> all = new HashSet<>();
            enumerate(new ArrayList<>(List.of(start)), day, new int[] {pinCell, pinStep, shunned}, all);
            return all;
        }
        Set<Spot> now = new HashSet<>();
        meet(now, new Spot(start, 0), 0, day, new int[] {pinCell, pinStep, shunned});
        for (int step = 1; step <= last; step++) {
            Set<Spot> next = new HashSet<>();
            Map<Integer, List<Integer>> known = new HashMap<>();
            for (Spot spot : now) {
                int s = step;
                for (int to : known.computeIfAbsent(spot.cell, c -> goals(c, s, day))) {
                    meet(next, new Spot(to, spot.set), step, day, new int[] {pinCell, pinStep, shunned});
                }
            }
            now = next;
        }
        return now;
    }

    private void meet(Set<Spot> into, Spot spot, int step, int day, int[] sieve) {
        if (sieve[1] == step && sieve[0] != spot.cell || sieve[2] == spot.cell) {
            return;
        }
        for (Find f : nothings(day)) {
            if (f.cell == spot.cell && in(step, f.a, f.b)) {
                return;
            }
        }
        int set = spot.set;
        int bit = 1;
        for (Find f : keptOnes(day)) {
            if (in(step, f.a, f.b) && far(f.cell, spot.cell) <= f.n) {
                set |= bit;
            }
            bit *= 2;
        }
        into.add(new Spot(spot.cell, set));
    }

    private void enumerate(List<Integer> way, int day, int[] sieve, Set<Spot> all) {
        int step = way.size() - 1;
        if (step < last) {
            for (int to : goals(way.get(step), step + 1, day)) {
                way.add(to);
                enumerate(way, day, sieve, all);
                way.remove(way.size() - 1);
            }
            return;
        }
        boolean fine = (sieve[1] == -1 || way.get(sieve[1]) == sieve[0]) && !way.contains(sieve[2]);
        for (Find f : nothings(day)) {
            for (int s = f.a; s <= Math.min(f.b, last); s++) {
                fine &= way.get(s) != f.cell;
            }
        }
        int set = 0;
        int i = 0;
        for (Find f : keptOnes(day)) {
            boolean met = false;
            for (int s = f.a; s <= Math.min(f.b, last); s++) {
                met |= far(way.get(s), f.cell) <= f.n;
            }
            set |= met ? 1 << i : 0;
            i++;
        }
        if (fine) {
            all.add(new Spot(way.get(last), set));
        }
    }

    private Set<Integer> fullEnds(int day, int pinCell, int pinStep, int shunned) {
        Set<Integer> cells = new TreeSet<>();
        int full = (1 << keptOnes(day).size()) - 1;
        for (Spot spot : ends(day, pinCell, pinStep, shunned)) {
            if (spot.set == full) {
                cells.add(spot.cell);
            }
        }
        return cells;
    }

    int fits(int day) {
        return !in(day, 0, 999) ? -1 : fullEnds(day, -1, -1, -1).isEmpty() ? 0 : 1;
    }

    int most(int day, int what) {
        if (!in(day, 0, 999) || !in(what, 0, 1)) {
            return -1;
        }
        TreeMap<Integer, TreeSet<Integer>> bySize = new TreeMap<>();
        for (Spot spot : ends(day, -1, -1, -1)) {
            bySize.computeIfAbsent(Integer.bitCount(spot.set), k -> new TreeSet<>()).add(spot.set);
        }
        if (bySize.isEmpty()) {
            return -1;
        }
        return what == 0 ? bySize.lastKey() : bySize.lastEntry().getValue().first();
    }

    int at(int day, int cell, int step) {
        if (!in(day, 0, 999) || !in(cell, 0, 255) || !in(step, 0, last)) {
            return -1;
        }
        return fullEnds(day, cell, step, -1).isEmpty() ? 0 : 1;
    }

    int sure(int day, int cell) {
        if (!in(day, 0, 999) || !in(cell, 0, 255)) {
            return -1;
        }
        return !fullEnds(day, -1, -1, -1).isEmpty() && fullEnds(day, -1, -1, cell).isEmpty() ? 1 : 0;
    }

    int ends(int day) {
        return in(day, 0, 999) ? fullEnds(day, -1, -1, -1).size() : -1;
    }

    int move(int to) {
        if (!in(to, 0, 8) || moves.size() == 119) {
            return -1;
        }
        moves.add(to);
        return moves.size();
    }

    int clear() {
        int had = moves.size();
        moves.clear();
        return had;
    }

    private static int moved(int cell, int north, int east) {
        int row = cell / 16 - north;
        int column = cell % 16 + east;
        return in(row, 0, 15) && in(column, 0, 15) ? row * 16 + column : -1;
    }

    private static int moved(int cell, int move) {
        int[] north = {0, 1, 1, 0, -1, -1, -1, 0, 1};
        int[] east = {0, 0, 1, 1, 1, 0, -1, -1, -1};
        return moved(cell, north[move], east[move]);
    }

    int judge(int day) {
        if (!in(day, 0, 999)) {
            return -2;
        }
        List<Integer> row = new ArrayList<>(List.of(start));
        for (int step = 0; step <= moves.size(); step++) {
            if (step > 0) {
                int to = moved(row.get(step - 1), moves.get(step - 1));
                if (to == -1 || !goals(row.get(step - 1), step, day).contains(to)) {
                    return step;
                }
                row.add(to);
            }
            for (Find f : nothings(day)) {
                if (in(step, f.a, f.b) && row.get(step) == f.cell) {
                    return step;
                }
            }
        }
        for (Find f : keptOnes(day)) {
            boolean met = false;
            for (int step = f.a; step <= Math.min(f.b, moves.size()); step++) {
                met |= far(row.get(step), f.cell) <= f.n;
            }
            if (!met) {
                return 1000 + f.number;
            }
        }
        return -1;
    }

    private static void eat(int[] menAndFood) {
        if (menAndFood[1] < menAndFood[0]) {
            menAndFood[1] = 0;
            menAndFood[0] -= menAndFood[0] / 10 + 1;
        } else {
            menAndFood[1] -= menAndFood[0];
        }
    }

    int alive(int step) {
        if (!in(step, 0, 119)) {
            return -1;
        }
        int[] both = {men, food};
        for (int i = 0; i < step; i++) {
            eat(both);
        }
        return both[0];
    }

    private long[] mass(int day, int step, int without) {
        long[] now = new long[256];
        now[start] = 1_000_000_000L;
        for (int s = 1; s <= step; s++) {
            long[] next = new long[256];
            for (int c = 0; c < 256; c++) {
                if (now[c] > 0) {
                    List<Integer> goals = goals(c, s, day);
                    for (int to : goals) {
                        next[to] += now[c] / goals.size();
                    }
                    next[c] += now[c] % goals.size();
                }
            }
            now = next;
            for (Find f : believed(day)) {
                for (int c = 0; c < 256; c++) {
                    if (f.number == without || !in(s, f.a, f.b)) {
                        continue;
                    }
                    if (f.kind == 4 && c == f.cell) {
                        now[c] = now[c] * (100 - f.n) / 100;
                    }
                    if (f.kind < 4 && s == f.b && far(c, f.cell) > f.n) {
                        now[c] = now[c] * (100 - f.trust) / 100;
                    }
                }
            }
        }
        return now;
    }

    int chance(int day, int cell, int step) {
        if (!in(day, 0, 999) || !in(cell, 0, 255) || !in(step, 0, last)) {
            return -1;
        }
        return (int) mass(day, step, -1)[cell];
    }

    int left(int day, int step) {
        return in(day, 0, 999) && in(step, 0, last) ? (int) Arrays.stream(mass(day, step, -1)).sum() : -1;
    }

    int lead(int day, int cell, int step, int find) {
        if (!in(day, 0, 999) || !in(cell, 0, 255) || !in(step, 0, last) || !in(find, 0, finds.size() - 1)) {
            return -2_000_000_000;
        }
        return (int) (mass(day, step, -1)[cell] - mass(day, step, find)[cell]);
    }

    int ship(int home, int range, int well) {
        if (!in(home, 0, 255) || !in(range, 0, 20) || !in(well, 1, 100) || ships.size() == 4) {
            return -1;
        }
        ships.add(new Ship(home, range, well));
        return ships.size() - 1;
    }

    private TreeMap<Integer, Integer> reached(Ship ship) {
        TreeMap<Integer, Integer> trips = new TreeMap<>(Map.of(ship.home, 0));
        ArrayDeque<Integer> leading = new ArrayDeque<>(List.of(ship.home));
        while (!leading.isEmpty()) {
            int from = leading.remove();
            for (int to = 0; to < 256; to++) {
                boolean land = lands.contains(to);
                if (far(from, to) != 1 || trips.containsKey(to) || trips.get(from) == ship.range) {
                    continue;
                }
                if (land || !isShut(to, last / 10, today)) {
                    trips.put(to, trips.get(from) + 1);
                }
                if (!land && trips.containsKey(to)) {
                    leading.add(to);
                }
            }
        }
        return trips;
    }

    int trip(int ship, int cell) {
        if (!in(ship, 0, ships.size() - 1) || !in(cell, 0, 255)) {
            return -1;
        }
        return reached(ships.get(ship)).getOrDefault(cell, -1);
    }

    /** The best row behind those CELLS that are taken: its sum, then its CELLS; null without one. */
    private long[] bestFrom(int ship, List<Integer> taken, long[] mass) {
        if (ship == ships.size()) {
            return new long[] {0};
        }
        long[] best = null;
        for (int cell : reached(ships.get(ship)).keySet()) {
            if (taken.contains(cell)) {
                continue;
            }
            taken.add(cell);
            long[] rest = bestFrom(ship + 1, taken, mass);
            taken.remove(taken.size() - 1);
            if (rest != null) {
                long sum = rest[0] + mass[cell] * ships.get(ship).well / 100;
                if (best == null || sum > best[0]) {
                    best = new long[rest.length + 1];
                    best[0] = sum;
                    best[1] = cell;
                    System.arraycopy(rest, 1, best, 2, rest.length - 1);
                }
            }
        }
        return best;
    }

    /** How many rows of CELLS best() would go through here. */
    double rowsOfShips() {
        double rows = 1;
        for (Ship ship : ships) {
            rows *= reached(ship).size();
        }
        return rows;
    }

    int best(int what) {
        if (what != 0 && !in(what, 10, 9 + ships.size()) || ships.isEmpty()) {
            return -1;
        }
        long[] best = bestFrom(0, new ArrayList<>(), mass(today, last, -1));
        if (best == null) {
            return -1;
        }
        return (int) (what == 0 ? best[0] : best[what - 9]);
    }

    int feed(int... numbers) {
        if (tape.length() + 20 > 700) {
            return -1;
        }
        for (int number : numbers) {
            for (int i = 3; i >= 0; i--) {
                tape.append((char) (number >> 8 * i & 255));
            }
        }
        return tape.length();
    }

    int rules(int n) {
        if (!in(n, 0, tape.length())) {
            return -2;
        }
        if (told.size() == 8) {
            return -3;
        }
        ModelRules read = new ModelRules(tape.substring(0, n));
        tape.setLength(0);
        fault = read.fault;
        if (fault != -1) {
            return -1;
        }
        told.add(new Told(read, today));
        return told.size() - 1;
    }

    int beside(int n) {
        if (!in(n, 0, tape.length())) {
            return -2;
        }
        ModelRules read = new ModelRules(tape.substring(0, n));
        tape.setLength(0);
        fault = read.fault;
        besides = fault == -1 ? read : null;
        return fault == -1 ? 0 : -1;
    }

    int fault() {
        return fault;
    }

    boolean home(int cell, boolean is) {
        if (!in(cell, 0, 255)) {
            return false;
        }
        if (is) {
            homes.add(cell);
        } else {
            homes.remove(cell);
        }
        return true;
    }

    private ModelRules inForce(int day) {
        ModelRules holding = new ModelRules("");
        for (Told t : told) {
            if (t.day <= day) {
                holding = t.rules;
            }
        }
        return holding;
    }

    private int openTo(int cell, int direction, int step, int day) {
        int to = moved(cell, 1 + 2 * direction);
        return to != -1 && !lands.contains(to) && !isShut(to, step / 10, day) ? 1 : 0;
    }

    private int sail(ModelRules rules, int day, int what) {
        int[] both = {men, food};
        List<Integer> at = new ArrayList<>(List.of(start));
        boolean afoot = false;
        int saved = homes.contains(start) ? 0 : -1;
        for (int step = 1; step <= last; step++) {
            eat(both);
            int here = at.get(step - 1);
            int[] open = new int[4];
            Map<String, Integer> asked = new HashMap<>(Map.of("year", step / 10, "step", step, "food", both[1],
                "men", both[0], "afoot", afoot ? 1 : 0));
            for (int d = 0; d < 4; d++) {
                open[d] = openTo(here, d, step, day);
                asked.put(ModelRules.DIRECTIONS.get(d), open[d]);
            }
            List<String> order = both[0] > 0 ? rules.order(asked) : List.of("stay");
            if (order.get(0).equals("leave")) {
                afoot = true;
            } else if (order.size() == 2) {
                int d = ModelRules.DIRECTIONS.indexOf(order.get(1));
                boolean goes = order.get(0).equals("go") ? !afoot && open[d] == 1 : afoot;
                int to = moved(here, 1 + 2 * d);
                here = goes && to != -1 ? to : here;
            }
            at.add(here);
            if (saved == -1 && both[0] > 0 && homes.contains(here)) {
                saved = step;
            }
        }
        if (what >= 100) {
            return at.get(what - 100);
        }
        return new int[] {at.get(last), both[0], both[1], afoot ? 1 : 0, saved}[what];
    }

    int would(int day, int what) {
        if (!in(day, 0, 999) || !in(what, 0, 4) && !in(what, 100, 100 + last)) {
            return -2;
        }
        return sail(inForce(day), day, what);
    }

    int tried(int day, int what) {
        if (!in(day, 0, 999) || !in(what, 0, 4) || besides == null) {
            return -2;
        }
        return sail(besides, day, what);
    }

    int quarrel(int day, int what) {
        return in(day, 0, 999) && in(what, 0, 1) ? inForce(day).quarrel(what) : -1;
    }

    int paid(int finder, int day) {
        if (!in(finder, 0, 9) || !in(day, 0, 999)) {
            return -2;
        }
        int sum = 0;
        for (Find f : believed(day)) {
            if (f.finder != finder) {
                continue;
            }
            int first = 1;
            for (Find other : finds) {
                if (other.number < f.number && other.cell == f.cell && other.day <= day) {
                    first = 0;
                }
            }
            sum += inForce(day).pay(f.kind, Map.of("year", f.a / 10, "step", f.a, "reach", f.n, "trust", f.trust,
                "first", first));
        }
        return sum;
    }

    int count(int what) {
        int doubted = 0;
        for (Find f : finds) {
            doubted += doubted(f.number, today) ? 1 : 0;
        }
        int lines = told.isEmpty() ? 0 : told.get(told.size() - 1).rules.size();
        int[] all = {today, finds.size(), doubted, ices.size(), tellers.size(), ships.size(), told.size(), lines,
            lands.size(), homes.size(), moves.size(), last, hold, tape.length(), besides == null ? 0 : 1};
        return in(what, 0, 14) ? all[what] : -1;
    }
}
