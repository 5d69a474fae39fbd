import java.util.ArrayList;
import java.util.HashSet;
import java.util.List;
import java.util.Set;
import java.util.regex.Matcher;
import java.util.regex.Pattern;

/**
 * The document a second time, by other ways than the program's: packs by regular expressions, places by
 * sums over days, walkers by all ways they can go, bread day by day. Written for the tests alone.
 */
final class Model {
    private static final String STATEMENT = "(?:s[0-9]{3}[0-9]{1,3},-?[0-9]{1,2},-?[0-9]{1,2};"
        + "|w[0-9]-?[0-9]-?[0-9];|r[0-9]{1,2};|v[0-9]{1,2};)";
    private static final Pattern PACK = Pattern.compile(STATEMENT + "+");
    private static final Pattern ONE = Pattern.compile(STATEMENT);
    private static final Pattern SHIP = Pattern.compile("s(.)(.)(.)(.+),(.+),(.+);");
    private static final Pattern WIND = Pattern.compile("w(.)(-?.)(-?.);");

    record Wind(int east, int north) { }

    record Ship(int kind, int figure, int crew, int bread, int east, int north) {
        Ship with(int newCrew, int newBread, int newEast, int newNorth) {
            return new Ship(kind, figure, newCrew, newBread, newEast, newNorth);
        }
    }

    record All(List<Wind> winds, List<Ship> ships, int day, int reach, int sight, int hunger) { }

    private List<Wind> winds = new ArrayList<>();
    private List<Ship> ships = new ArrayList<>();
    private int day;
    private int reach = 10;
    private int sight = 30;
    private int hunger;
    private All image;
    private String letters = "";
    private List<Integer> row = new ArrayList<>();
    private final int[] refused = new int[7];

    Model() {
        for (int i = 0; i < 7; i++) {
            winds.add(new Wind(0, 0));
        }
    }

    private int no(int number) {
        refused[-number]++;
        return number;
    }

    private boolean is(int ship) {
        return ship >= 0 && ship < ships.size();
    }

    private boolean two(int one, int other) {
        return is(one) && is(other) && one != other;
    }

    private static int far(Ship a, Ship b) {
        return Math.max(Math.abs(a.east - b.east), Math.abs(a.north - b.north));
    }

    private static Wind drift(int kind, int figure, int day, Wind today, Wind ahead) {
        switch (kind) {
            case 0: return today;
            case 1: return new Wind(today.east / 2, today.north / 2);
            case 2: return new Wind(-today.north, today.east);
            case 3: return ahead;
            case 4: return day % (figure + 2) == 0
                ? new Wind(today.north, -today.east) : new Wind(-today.north, today.east);
            default: return new Wind(today.east / 2 + figure * Integer.signum(today.east), today.north / 2);
        }
    }

    private Wind driftOn(int kind, int figure, int when) {
        return drift(kind, figure, when, winds.get(when % 7), winds.get((when + 6) % 7));
    }

    /** A ship where it is behind n days, with bread as now. */
    private Ship later(Ship ship, int kind, int figure, int n) {
        int east = ship.east;
        int north = ship.north;
        for (int i = 0; i < n; i++) {
            Wind by = driftOn(kind, figure, day + i);
            east += by.east;
            north += by.north;
        }
        return ship.with(ship.crew, ship.bread, east, north);
    }

    private Ship later(int ship, int n) {
        Ship s = ships.get(ship);
        return later(s, s.kind, s.figure, n);
    }

    private int farLater(int one, int other, int n) {
        return far(later(one, n), later(other, n));
    }

    /** Hunger of days to come, counted man by man. */
    private static int lacking(List<Ship> of, int n) {
        int sum = 0;
        for (Ship s : of) {
            int left = s.bread;
            for (int i = 0; i < n * s.crew; i++) {
                if (left > 0) {
                    left--;
                } else {
                    sum++;
                }
            }
        }
        return sum;
    }

    int feed(int letter) {
        if (letter < 0) {
            return no(-4);
        }
        if (letter > 255 || letters.length() == 80) {
            return no(-6);
        }
        letters += (char) letter;
        return letters.length();
    }

    int pack() {
        String text = letters;
        letters = "";
        for (int end = 0; end <= text.length(); end++) {
            Matcher m = PACK.matcher(text.substring(0, end));
            boolean matches = m.matches();
            if (!matches && !m.hitEnd()) {
                return -1000 - (end - 1);
            }
            if (end == text.length() && !matches) {
                return -1000 - end;
            }
        }
        All before = keep();
        Matcher m = ONE.matcher(text);
        int statements = 0;
        while (m.find()) {
            if (!take(m.group())) {
                give(before);
                return -2000 - m.start();
            }
            statements++;
        }
        return statements;
    }

    private boolean take(String statement) {
        Matcher ship = SHIP.matcher(statement);
        Matcher wind = WIND.matcher(statement);
        if (ship.matches()) {
            int[] v = new int[6];
            for (int i = 0; i < 6; i++) {
                v[i] = Integer.parseInt(ship.group(i + 1));
            }
            ships.add(new Ship(v[0], v[1], v[2], v[3], v[4], v[5]));
            return v[0] < 6 && ships.size() <= 6;
        }
        if (wind.matches()) {
            int when = Integer.parseInt(wind.group(1));
            Wind told = new Wind(Integer.parseInt(wind.group(2)), Integer.parseInt(wind.group(3)));
            if (when > 6 || Math.abs(told.east) > 4 || Math.abs(told.north) > 4) {
                return false;
            }
            winds.set(when, told);
            return true;
        }
        int v = Integer.parseInt(statement.substring(1, statement.length() - 1));
        if (statement.charAt(0) == 'r') {
            reach = v;
            return v > 0 && v <= 40;
        }
        sight = v;
        return v > 0;
    }

    int ship(int ship, int what) {
        if (!is(ship)) {
            return no(-1);
        }
        Ship s = ships.get(ship);
        Wind by = driftOn(s.kind, s.figure, day);
        int[] answers = {s.kind, s.figure, s.crew, s.bread, 1000000 + s.east, 1000000 + s.north,
            1000000 + by.east, 1000000 + by.north};
        return what < 0 || what > 7 ? no(-2) : answers[what];
    }

    int wind(int when) {
        return when < 0 || when > 6 ? no(-1) : 10 * (4 + winds.get(when).east) + 4 + winds.get(when).north;
    }

    int blow(int when, int east, int north) {
        if (when < 0 || when > 6) {
            return no(-1);
        }
        if (east < -4 || north < -4) {
            return no(-4);
        }
        if (east > 4 || north > 4) {
            return no(-6);
        }
        int was = wind(when);
        winds.set(when, new Wind(east, north));
        return was;
    }

    int set(int what, int v) {
        if (what != 0 && what != 1) {
            return no(-2);
        }
        if (v < 1) {
            return no(-4);
        }
        if (v > (what == 0 ? 40 : 99)) {
            return no(-6);
        }
        int was = what == 0 ? reach : sight;
        reach = what == 0 ? v : reach;
        sight = what == 1 ? v : sight;
        return was;
    }

    int go(int n) {
        if (n < 1) {
            return no(-4);
        }
        if (n > 60 || day + n > 9999) {
            return no(-6);
        }
        int sum = lacking(ships, n);
        List<Ship> then = new ArrayList<>();
        for (int i = 0; i < ships.size(); i++) {
            Ship s = later(i, n);
            then.add(s.with(s.crew, Math.max(0, s.bread - n * s.crew), s.east, s.north));
        }
        ships = then;
        day += n;
        hunger += sum;
        return sum;
    }

    int far(int one, int other) {
        return two(one, other) ? farLater(one, other, 0) : no(-1);
    }

    int open(int one, int other, int what) {
        if (!two(one, other)) {
            return no(-1);
        }
        if (what < 0 || what > 2) {
            return no(-2);
        }
        int[] limits = {reach, 1, sight};
        return farLater(one, other, 0) <= limits[what] ? 1 : 0;
    }

    long behind(int ship, int n) {
        int number = !is(ship) ? -1 : n < 0 ? -4 : n > 60 ? -6 : 0;
        if (number != 0) {
            return 4000000000000000000L - no(number);
        }
        Ship then = later(ship, n);
        return 100000L * (then.east - ships.get(ship).east) + then.north - ships.get(ship).north;
    }

    int meet(int one, int other) {
        if (!two(one, other)) {
            return no(-1);
        }
        for (int n = 0; n <= 60; n++) {
            if (farLater(one, other, n) <= 1) {
                return n;
            }
        }
        return -9;
    }

    int nearest(int one, int other, int n, int what) {
        int number = !two(one, other) ? -1 : n < 0 ? -4 : n > 60 ? -6 : what < 0 || what > 1 ? -2 : 0;
        if (number != 0) {
            return no(number);
        }
        int best = n;
        for (int d = n; d >= 0; d--) {
            if (farLater(one, other, d) <= farLater(one, other, best)) {
                best = d;
            }
        }
        return what == 0 ? best : farLater(one, other, best);
    }

    /** Where a walker can be behind each number of days, with whether he has been there already. */
    private List<Set<Integer>> walks(int one, int other) {
        List<Set<Integer>> days = new ArrayList<>();
        Set<Integer> at = new HashSet<>();
        at.add(2 * one + (one == other ? 1 : 0));
        days.add(at);
        for (int d = 0; d < 40; d++) {
            Set<Integer> next = new HashSet<>(at);
            for (int state : at) {
                for (int to = 0; to < ships.size(); to++) {
                    if (to != state / 2 && farLater(state / 2, to, d) <= reach) {
                        next.add(2 * to + (state % 2 == 1 || to == other ? 1 : 0));
                    }
                }
            }
            days.add(next);
            at = next;
        }
        return days;
    }

    private static int firstWith(List<Set<Integer>> days, int state) {
        for (int d = 0; d < days.size(); d++) {
            if (days.get(d).contains(state)) {
                return d;
            }
        }
        return -9;
    }

    int there(int one, int other) {
        return is(one) && is(other) ? firstWith(walks(one, other), 2 * other + 1) : no(-1);
    }

    int back(int one, int other) {
        return two(one, other) ? firstWith(walks(one, other), 2 * one + 1) : no(-1);
    }

    int news(int ship) {
        if (!is(ship)) {
            return no(-1);
        }
        int latest = 0;
        for (int i = 0; i < ships.size(); i++) {
            int first = there(ship, i);
            if (first == -9) {
                return -9;
            }
            latest = Math.max(latest, first);
        }
        return latest;
    }

    int know(int ship, int n) {
        int number = !is(ship) ? -1 : n < 0 ? -4 : n > 40 ? -6 : 0;
        if (number != 0) {
            return no(number);
        }
        int bits = 0;
        for (int i = 0; i < ships.size(); i++) {
            int first = there(ship, i);
            bits += first != -9 && first <= n ? 1 << i : 0;
        }
        return bits;
    }

    int lost() {
        int bits = 0;
        for (Ship s : ships) {
            long seen = ships.stream().filter(t -> t != s && far(s, t) <= sight).count();
            bits += seen == 0 ? 1 << ships.indexOf(s) : 0;
        }
        return bits;
    }

    int groups() {
        int[] group = new int[ships.size()];
        for (int i = 0; i < group.length; i++) {
            group[i] = i;
        }
        for (int i = 0; i < group.length; i++) {
            for (int j = 0; j < i; j++) {
                if (farLater(i, j, 0) <= reach) {
                    int from = group[i];
                    int to = group[j];
                    for (int k = 0; k < group.length; k++) {
                        group[k] = group[k] == from ? to : group[k];
                    }
                }
            }
        }
        Set<Integer> names = new HashSet<>();
        for (int name : group) {
            names.add(name);
        }
        return names.size();
    }

    int hungry(int n) {
        return n < 0 ? no(-4) : n > 60 ? no(-6) : lacking(ships, n);
    }

    int lasts(int ship) {
        if (!is(ship)) {
            return no(-1);
        }
        int days = 0;
        int left = ships.get(ship).bread;
        while (days < 99 && left >= ships.get(ship).crew) {
            left -= ships.get(ship).crew;
            days++;
        }
        return days;
    }

    int share(int one, int other) {
        if (!two(one, other)) {
            return no(-1);
        }
        Ship a = ships.get(one);
        Ship b = ships.get(other);
        if (far(a, b) > 1) {
            return no(-3);
        }
        int all = a.bread + b.bread;
        int crews = a.crew + b.crew;
        int first = crews == 0 ? all / 2 : all * a.crew / crews;
        int second = crews == 0 ? all / 2 : all * b.crew / crews;
        first += all - first - second;
        ships.set(one, a.with(a.crew, Math.min(999, first), a.east, a.north));
        ships.set(other, b.with(b.crew, Math.min(999, second), b.east, b.north));
        return ships.get(one).bread;
    }

    private int lackingWithout(int lost, int n) {
        Ship gone = ships.get(lost);
        int heir = -1;
        for (int i = ships.size() - 1; i >= 0; i--) {
            if (i != lost && (heir < 0 || far(gone, ships.get(i)) <= far(gone, ships.get(heir)))) {
                heir = i;
            }
        }
        List<Ship> rest = new ArrayList<>(ships);
        Ship h = ships.get(heir);
        rest.set(heir, h.with(Math.min(9, h.crew + gone.crew), Math.min(999, h.bread + gone.bread), h.east, h.north));
        rest.remove(lost);
        return lacking(rest, n);
    }

    int givenUp(int n, int what) {
        int number = n < 0 ? -4 : n > 60 ? -6 : what < 0 || what > 1 ? -2 : 0;
        if (number != 0) {
            return no(number);
        }
        if (ships.size() < 2) {
            return -9;
        }
        int best = ships.size() - 1;
        for (int i = best; i >= 0; i--) {
            best = lackingWithout(i, n) <= lackingWithout(best, n) ? i : best;
        }
        return what == 0 ? best : lackingWithout(best, n);
    }

    int home(int east, int north, int n, int what) {
        int number = n < 0 || east < -9999 || north < -9999 ? -4
            : n > 60 || east > 9999 || north > 9999 ? -6 : what < 0 || what > 2 ? -2 : 0;
        if (number != 0) {
            return no(number);
        }
        if (ships.isEmpty()) {
            return -9;
        }
        Ship place = new Ship(0, 0, 0, 0, east, north);
        int[] best = null;
        for (int i = ships.size() - 1; i >= 0; i--) {
            for (int d = n; d >= 0; d--) {
                int way = far(later(i, d), place);
                if (best == null || way < best[2] || way == best[2] && d <= best[1]) {
                    best = new int[] {i, d, way};
                }
            }
        }
        return best[what];
    }

    int kinds(int ship, int figure, int n, int east, int north) {
        int number = !is(ship) ? -1 : n < 0 || figure < 0 ? -4 : n > 30 || figure > 9 ? -6 : 0;
        if (number != 0) {
            return no(number);
        }
        int bits = 0;
        for (int kind = 5; kind >= 0; kind--) {
            Ship then = later(ships.get(ship), kind, figure, n);
            bits = 2 * bits + (then.east == east && then.north == north ? 1 : 0);
        }
        return bits;
    }

    int row(int v) {
        if (v < -999) {
            return no(-4);
        }
        if (v > 999 || row.size() == 12) {
            return no(-6);
        }
        row.add(v);
        return row.size();
    }

    int judge(int ship) {
        if (!is(ship)) {
            return no(-1);
        }
        int answer = -9;
        for (int i = row.size() - 1; i >= 0; i--) {
            Ship then = later(ship, i / 2);
            answer = row.get(i) != (i % 2 == 0 ? then.east : then.north) ? i : answer;
        }
        row.clear();
        return answer;
    }

    int lots(int n, int z, int what) {
        int number = n < 1 ? -4 : n > 40 ? -6 : what < 0 || what > 1 ? -2 : 0;
        if (number != 0) {
            return no(number);
        }
        List<Wind> drawn = new ArrayList<>();
        drawn.add(new Wind(0, 0));
        long seed = z & 0xffffffffL;
        for (int i = 0; i < n; i++) {
            seed = (seed * 1103515245L + 12345L) % 4294967296L;
            int east = (int) (seed % 2147483648L / 65536 % 9) - 4;
            seed = (seed * 1103515245L + 12345L) % 4294967296L;
            int north = (int) (seed % 2147483648L / 65536 % 9) - 4;
            drawn.add(new Wind(east, north));
        }
        if (what == 0) {
            return lacking(ships, n);
        }
        List<Ship> then = new ArrayList<>();
        for (Ship s : ships) {
            Ship t = s;
            for (int i = 0; i < n; i++) {
                Wind by = drift(s.kind, s.figure, day + i, drawn.get(i + 1), drawn.get(i));
                t = t.with(t.crew, t.bread, t.east + by.east, t.north + by.north);
            }
            then.add(t);
        }
        return pairs(then, sight);
    }

    private static int pairs(List<Ship> of, int limit) {
        int sum = 0;
        for (Ship a : of) {
            for (Ship b : of) {
                sum += a != b && far(a, b) <= limit ? 1 : 0;
            }
        }
        return sum / 2;
    }

    private All keep() {
        return new All(new ArrayList<>(winds), new ArrayList<>(ships), day, reach, sight, hunger);
    }

    private void give(All all) {
        winds = new ArrayList<>(all.winds);
        ships = new ArrayList<>(all.ships);
        day = all.day;
        reach = all.reach;
        sight = all.sight;
        hunger = all.hunger;
    }

    int image() {
        image = keep();
        return day;
    }

    int restore() {
        if (image == null) {
            return no(-3);
        }
        give(image);
        return day;
    }

    int count(int what) {
        if (what >= 11 && what <= 16) {
            return refused[what - 10];
        }
        int bread = ships.stream().mapToInt(Ship::bread).sum();
        int crews = ships.stream().mapToInt(Ship::crew).sum();
        int[] answers = {ships.size(), day, reach, sight, bread, crews, hunger, pairs(ships, reach),
            letters.length(), row.size()};
        return what >= 0 && what <= 9 ? answers[what] : -9;
    }
}
