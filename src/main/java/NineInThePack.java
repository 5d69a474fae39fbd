/**
 * Ships frozen in the pack ice: where the winds take them, who comes to whom on foot,
 * and how long the bread lasts. README.md tells how to use it.
 */
public final class NineInThePack {
    private static final int NOBODY = -1;
    private static final int OTHER = -2;
    private static final int STATE = -3;
    private static final int BELOW = -4;
    private static final int ROOM = -6;
    private static final int NONE = -9;
    private static final long LONG_REFUSALS = 4000000000000000000L;

    private static final int WEEK = 7;
    private static final int MOST_SHIPS = 6;
    private static final int KIND_COUNT = 6;
    private static final int MOST_FIGURE = 9;
    private static final int MOST_CREW = 9;
    private static final int MOST_BREAD = 999;
    private static final int STRONGEST_WIND = 4;
    private static final int MOST_REACH = 40;
    private static final int MOST_SIGHT = 99;
    private static final int TOUCH = 1;
    private static final int LAST_DAY = 9999;
    private static final int MOST_DAYS = 60;
    private static final int MOST_WALKED_DAYS = 40;
    private static final int MOST_FOUND_DAYS = 30;
    private static final int MOST_LOTS_DAYS = 40;
    private static final int LONGEST_LASTING = 99;
    private static final int MOST_LETTERS = 80;
    private static final int MOST_IN_ROW = 12;
    private static final int FARTHEST_IN_ROW = 999;
    private static final int FARTHEST_HOME = 9999;
    private static final int MILLION = 1000000;

    private final Drift[] drifts = {
        new Drift(), new HeavyDrift(), new TurnedDrift(), new LateDrift(), new SpunDrift(), new FastDrift()
    };
    private final Air air = new Air();
    private final Lot lot = new Lot();
    private final Ice now = new Ice();
    private final Ice mind = new Ice();
    private final Ice kept = new Ice();
    private boolean keptIsThere;
    private final Letters letters = new Letters();
    private final int[] told = new int[MOST_IN_ROW];
    private int toldCount;
    private final int[] refusals = new int[7];

    public NineInThePack() {
    }

    public int feed(int letter) {
        if (letter < 0) {
            return refuse(BELOW);
        }
        if (letter > 255 || letters.size >= MOST_LETTERS) {
            return refuse(ROOM);
        }
        letters.add(letter);
        return letters.size;
    }

    public int pack() {
        mind.copyFrom(now);
        int answer = letters.readInto(mind);
        if (answer > 0) {
            now.copyFrom(mind);
        }
        return answer;
    }

    public int ship(int ship, int what) {
        int no = first(nobody(ship), otherThan(what, 7));
        if (no != 0) {
            return refuse(no);
        }
        Ship one = now.ships[ship];
        switch (what) {
            case 0: return one.kind;
            case 1: return one.figure;
            case 2: return one.crew;
            case 3: return one.bread;
            case 4: return MILLION + one.east;
            case 5: return MILLION + one.north;
            default: return MILLION + driftToday(one, what == 6);
        }
    }

    public int wind(int day) {
        return isOfWeek(day) ? toldWind(day) : refuse(NOBODY);
    }

    public int blow(int day, int east, int north) {
        if (!isOfWeek(day)) {
            return refuse(NOBODY);
        }
        int no = rangeOfTwo(east, north, -STRONGEST_WIND, STRONGEST_WIND);
        if (no != 0) {
            return refuse(no);
        }
        int before = toldWind(day);
        now.windEast[day] = east;
        now.windNorth[day] = north;
        return before;
    }

    public int set(int what, int v) {
        int most = what == 0 ? MOST_REACH : MOST_SIGHT;
        int no = first(otherThan(what, 1), range(v, 1, most));
        if (no != 0) {
            return refuse(no);
        }
        int before = what == 0 ? now.reach : now.sight;
        if (what == 0) {
            now.reach = v;
        } else {
            now.sight = v;
        }
        return before;
    }

    public int go(int n) {
        int no = range(n, 1, Math.min(MOST_DAYS, LAST_DAY - now.day));
        if (no != 0) {
            return refuse(no);
        }
        int hunger = 0;
        for (int i = 0; i < n; i++) {
            hunger += dayOf(now);
        }
        now.hunger += hunger;
        return hunger;
    }

    public int far(int one, int other) {
        int no = notTwo(one, other);
        return no != 0 ? refuse(no) : now.gap(one, other);
    }

    public int open(int one, int other, int what) {
        int no = first(notTwo(one, other), otherThan(what, 2));
        if (no != 0) {
            return refuse(no);
        }
        int limit = what == 0 ? now.reach : what == 1 ? TOUCH : now.sight;
        return now.gap(one, other) <= limit ? 1 : 0;
    }

    public long behind(int ship, int n) {
        int no = first(nobody(ship), range(n, 0, MOST_DAYS));
        if (no != 0) {
            return LONG_REFUSALS - refuse(no);
        }
        mind.copyFrom(now);
        for (int i = 0; i < n; i++) {
            dayOf(mind);
        }
        long east = mind.ships[ship].east - now.ships[ship].east;
        long north = mind.ships[ship].north - now.ships[ship].north;
        return 100000L * east + north;
    }

    public int meet(int one, int other) {
        int no = notTwo(one, other);
        if (no != 0) {
            return refuse(no);
        }
        mind.copyFrom(now);
        for (int d = 0; d <= MOST_DAYS; d++) {
            if (mind.gap(one, other) <= TOUCH) {
                return d;
            }
            dayOf(mind);
        }
        return NONE;
    }

    public int nearest(int one, int other, int n, int what) {
        int no = first(notTwo(one, other), first(range(n, 0, MOST_DAYS), otherThan(what, 1)));
        if (no != 0) {
            return refuse(no);
        }
        mind.copyFrom(now);
        int when = 0;
        int least = now.gap(one, other);
        for (int d = 1; d <= n; d++) {
            dayOf(mind);
            int gap = mind.gap(one, other);
            if (gap < least) {
                least = gap;
                when = d;
            }
        }
        return what == 0 ? when : least;
    }

    public int there(int one, int other) {
        int no = first(nobody(one), nobody(other));
        if (no != 0) {
            return refuse(no);
        }
        mind.copyFrom(now);
        return daysUntil(1 << one, 1 << other, MOST_WALKED_DAYS);
    }

    public int back(int one, int other) {
        int no = notTwo(one, other);
        if (no != 0) {
            return refuse(no);
        }
        mind.copyFrom(now);
        // Who is there early can wait there: so the earliest way there begins the earliest way back.
        int out = daysUntil(1 << one, 1 << other, MOST_WALKED_DAYS);
        if (out == NONE) {
            return NONE;
        }
        int homeward = daysUntil(1 << other, 1 << one, MOST_WALKED_DAYS - out);
        return homeward == NONE ? NONE : out + homeward;
    }

    public int news(int ship) {
        int no = nobody(ship);
        if (no != 0) {
            return refuse(no);
        }
        mind.copyFrom(now);
        return daysUntil(1 << ship, now.allShips(), MOST_WALKED_DAYS);
    }

    public int know(int ship, int n) {
        int no = first(nobody(ship), range(n, 0, MOST_WALKED_DAYS));
        if (no != 0) {
            return refuse(no);
        }
        mind.copyFrom(now);
        int known = 1 << ship;
        for (int i = 0; i < n; i++) {
            known = mind.oneLeadOn(known);
            dayOf(mind);
        }
        return known;
    }

    public int lost() {
        int bits = 0;
        for (int i = 0; i < now.shipCount; i++) {
            if (!now.isSeen(i)) {
                bits |= 1 << i;
            }
        }
        return bits;
    }

    public int groups() {
        int grouped = 0;
        int groups = 0;
        for (int i = 0; i < now.shipCount; i++) {
            if ((grouped & (1 << i)) == 0) {
                grouped |= now.groupOf(i);
                groups++;
            }
        }
        return groups;
    }

    public int hungry(int n) {
        int no = range(n, 0, MOST_DAYS);
        return no != 0 ? refuse(no) : now.hungerToCome(n);
    }

    public int lasts(int ship) {
        int no = nobody(ship);
        if (no != 0) {
            return refuse(no);
        }
        Ship one = now.ships[ship];
        return one.crew <= 0 ? LONGEST_LASTING : Math.min(LONGEST_LASTING, one.bread / one.crew);
    }

    public int share(int one, int other) {
        int no = notTwo(one, other);
        if (no != 0) {
            return refuse(no);
        }
        if (now.gap(one, other) > TOUCH) {
            return refuse(STATE);
        }
        deal(now.ships[one], now.ships[other]);
        return now.ships[one].bread;
    }

    public int givenUp(int n, int what) {
        int no = first(range(n, 0, MOST_DAYS), otherThan(what, 1));
        if (no != 0) {
            return refuse(no);
        }
        if (now.shipCount < 2) {
            return NONE;
        }
        int ship = 0;
        int least = hungerWithout(0, n);
        for (int i = 1; i < now.shipCount; i++) {
            int hunger = hungerWithout(i, n);
            if (hunger < least) {
                least = hunger;
                ship = i;
            }
        }
        return what == 0 ? ship : least;
    }

    public int home(int east, int north, int n, int what) {
        int noPlace = rangeOfTwo(east, north, -FARTHEST_HOME, FARTHEST_HOME);
        int no = first(belowFirst(range(n, 0, MOST_DAYS), noPlace), otherThan(what, 2));
        if (no != 0) {
            return refuse(no);
        }
        if (now.shipCount == 0) {
            return NONE;
        }
        mind.copyFrom(now);
        int ship = now.nearestTo(east, north, NONE);
        int day = 0;
        int least = now.gapToPlace(ship, east, north);
        for (int d = 1; d <= n; d++) {
            dayOf(mind);
            int leaver = mind.nearestTo(east, north, NONE);
            int way = mind.gapToPlace(leaver, east, north);
            if (way < least) {
                least = way;
                day = d;
                ship = leaver;
            }
        }
        return what == 0 ? ship : what == 1 ? day : least;
    }

    public int kinds(int ship, int figure, int n, int east, int north) {
        int no = first(nobody(ship), belowFirst(range(n, 0, MOST_FOUND_DAYS), range(figure, 0, MOST_FIGURE)));
        if (no != 0) {
            return refuse(no);
        }
        int bits = 0;
        for (int kind = 0; kind < KIND_COUNT; kind++) {
            if (wouldBeAt(now.ships[ship], drifts[kind], figure, n, east, north)) {
                bits |= 1 << kind;
            }
        }
        return bits;
    }

    public int row(int v) {
        if (v < -FARTHEST_IN_ROW) {
            return refuse(BELOW);
        }
        if (v > FARTHEST_IN_ROW || toldCount >= MOST_IN_ROW) {
            return refuse(ROOM);
        }
        told[toldCount] = v;
        toldCount++;
        return toldCount;
    }

    public int judge(int ship) {
        int no = nobody(ship);
        if (no != 0) {
            return refuse(no);
        }
        int place = firstUntrue(ship);
        toldCount = 0;
        return place;
    }

    public int lots(int n, int z, int what) {
        int no = first(range(n, 1, MOST_LOTS_DAYS), otherThan(what, 1));
        if (no != 0) {
            return refuse(no);
        }
        mind.copyFrom(now);
        lot.z = z;
        air.fallCalm();
        int hunger = 0;
        for (int i = 0; i < n; i++) {
            air.drawBy(lot, mind.day);
            hunger += mind.passDay(air, drifts);
        }
        return what == 0 ? hunger : mind.pairsWithin(mind.sight);
    }

    public int image() {
        kept.copyFrom(now);
        keptIsThere = true;
        return now.day;
    }

    public int restore() {
        if (!keptIsThere) {
            return refuse(STATE);
        }
        now.copyFrom(kept);
        return now.day;
    }

    public int count(int what) {
        if (what >= 11 && what <= 16) {
            return refusals[what - 10];
        }
        switch (what) {
            case 0: return now.shipCount;
            case 1: return now.day;
            case 2: return now.reach;
            case 3: return now.sight;
            case 4: return now.allBread();
            case 5: return now.allCrews();
            case 6: return now.hunger;
            case 7: return now.pairsWithin(now.reach);
            case 8: return letters.size;
            case 9: return toldCount;
            default: return NONE;
        }
    }

    /** Counts a refusal and answers its number. */
    private int refuse(int no) {
        int place = -no;
        if (place > 0 && place < refusals.length) {
            refusals[place]++;
        }
        return no;
    }

    /** Of two refusals (0 is none) the one that is told first. */
    private static int first(int no, int nextNo) {
        return no != 0 ? no : nextNo;
    }

    private int nobody(int ship) {
        return now.has(ship) ? 0 : NOBODY;
    }

    private int notTwo(int one, int other) {
        return now.has(one) && now.has(other) && one != other ? 0 : NOBODY;
    }

    private static int otherThan(int what, int most) {
        return what >= 0 && what <= most ? 0 : OTHER;
    }

    private static int range(int v, int least, int most) {
        return v < least ? BELOW : v > most ? ROOM : 0;
    }

    private static int rangeOfTwo(int v, int w, int least, int most) {
        return belowFirst(range(v, least, most), range(w, least, most));
    }

    /** Of two numbers' refusals: BELOW is told ahead of ROOM, whichever number it is that is below. */
    private static int belowFirst(int no, int otherNo) {
        return otherNo == BELOW ? BELOW : first(no, otherNo);
    }

    private static boolean isOfWeek(int day) {
        return day >= 0 && day < WEEK;
    }

    private int toldWind(int day) {
        return 10 * (STRONGEST_WIND + now.windEast[day]) + STRONGEST_WIND + now.windNorth[day];
    }

    private int driftToday(Ship ship, boolean east) {
        now.airOf(now.day, air);
        Drift drift = drifts[ship.kind];
        return east ? drift.eastward(air, ship.figure) : drift.northward(air, ship.figure);
    }

    /** A DAY goes by, with the WIND of its week: its HUNGER. */
    private int dayOf(Ice ice) {
        ice.airOf(ice.day, air);
        return ice.passDay(air, drifts);
    }

    /** In mind, from the DAY that is there: behind how many DAYS at most what goes by leads is at all the goals. */
    private int daysUntil(int from, int goals, int most) {
        int reached = from;
        for (int d = 0; d <= most; d++) {
            if ((reached & goals) == goals) {
                return d;
            }
            reached = mind.oneLeadOn(reached);
            dayOf(mind);
        }
        return NONE;
    }

    private static void deal(Ship one, Ship other) {
        int all = one.bread + other.bread;
        int crews = one.crew + other.crew;
        int others = crews > 0 ? all * other.crew / crews : all / 2;
        // What cutting leaves is the first one's, so the first has all that the other has not.
        one.bread = Math.min(MOST_BREAD, all - others);
        other.bread = Math.min(MOST_BREAD, others);
    }

    private int hungerWithout(int ship, int n) {
        mind.copyFrom(now);
        mind.giveUp(ship);
        return mind.hungerToCome(n);
    }

    private boolean wouldBeAt(Ship from, Drift drift, int figure, int n, int east, int north) {
        int atEast = from.east;
        int atNorth = from.north;
        for (int i = 0; i < n; i++) {
            now.airOf(now.day + i, air);
            atEast += drift.eastward(air, figure);
            atNorth += drift.northward(air, figure);
        }
        return atEast == east && atNorth == north;
    }

    private int firstUntrue(int ship) {
        mind.copyFrom(now);
        Ship one = mind.ships[ship];
        for (int i = 0; i < toldCount; i++) {
            boolean isEast = i % 2 == 0;
            if (told[i] != (isEast ? one.east : one.north)) {
                return i;
            }
            if (!isEast) {
                dayOf(mind);
            }
        }
        return NONE;
    }

    /** The WIND of a DAY as ships feel it, with the one of the DAY ahead for those that are LATE. */
    private static final class Air {
        int day;
        int east;
        int north;
        int lateEast;
        int lateNorth;

        void fallCalm() {
            east = 0;
            north = 0;
        }

        void drawBy(Lot lot, int ofDay) {
            day = ofDay;
            lateEast = east;
            lateNorth = north;
            east = lot.drawBelow(2 * STRONGEST_WIND + 1) - STRONGEST_WIND;
            north = lot.drawBelow(2 * STRONGEST_WIND + 1) - STRONGEST_WIND;
        }
    }

    private static final class Lot {
        private static final int WITHOUT_SIGN = 0x7fffffff;

        int z;

        int drawBelow(int n) {
            z = z * 1103515245 + 12345;
            return n > 0 ? (z & WITHOUT_SIGN) / 65536 % n : 0;
        }
    }

    /** How a SHIP drifts; the other kinds stand under it as the document tells them. */
    private static class Drift {
        int eastward(Air air, int figure) {
            return air.east;
        }

        int northward(Air air, int figure) {
            return air.north;
        }
    }

    private static class HeavyDrift extends Drift {
        int eastward(Air air, int figure) {
            return super.eastward(air, figure) / 2;
        }
        int northward(Air air, int figure) {
            return super.northward(air, figure) / 2;
        }
    }

    private static class TurnedDrift extends Drift {
        int eastward(Air air, int figure) {
            return -super.northward(air, figure);
        }
        int northward(Air air, int figure) {
            return super.eastward(air, figure);
        }
    }

    private static final class LateDrift extends Drift {
        int eastward(Air air, int figure) {
            return air.lateEast;
        }
        int northward(Air air, int figure) {
            return air.lateNorth;
        }
    }

    private static final class SpunDrift extends TurnedDrift {
        int eastward(Air air, int figure) {
            return way(air.day, figure) * super.eastward(air, figure);
        }
        int northward(Air air, int figure) {
            return way(air.day, figure) * super.northward(air, figure);
        }

        private static int way(int day, int figure) {
            int step = figure + 2;
            return step > 0 && day % step == 0 ? -1 : 1;
        }
    }

    private static final class FastDrift extends HeavyDrift {
        int eastward(Air air, int figure) {
            return super.eastward(air, figure) + figure * sign(air.east);
        }

        private static int sign(int v) {
            return v > 0 ? 1 : v < 0 ? -1 : 0;
        }
    }

    private static final class Ship {
        int kind;
        int figure;
        int crew;
        int bread;
        int east;
        int north;

        void copyFrom(Ship other) {
            kind = other.kind;
            figure = other.figure;
            crew = other.crew;
            bread = other.bread;
            east = other.east;
            north = other.north;
        }

        /** A DAY's meal: what lacks of it. */
        int eat() {
            int eaten = Math.min(bread, crew);
            bread -= eaten;
            return crew - eaten;
        }
    }

    /** All that an image keeps: the winds, the ships, the DAY, how far crews walk and see, HUNGER so far. */
    private static final class Ice {
        final int[] windEast = new int[WEEK];
        final int[] windNorth = new int[WEEK];
        final Ship[] ships = new Ship[MOST_SHIPS];
        int shipCount;
        int day;
        int reach = 10;
        int sight = 30;
        int hunger;

        Ice() {
            for (int i = 0; i < MOST_SHIPS; i++) {
                ships[i] = new Ship();
            }
        }

        void copyFrom(Ice other) {
            for (int i = 0; i < WEEK; i++) {
                windEast[i] = other.windEast[i];
                windNorth[i] = other.windNorth[i];
            }
            for (int i = 0; i < other.shipCount; i++) {
                ships[i].copyFrom(other.ships[i]);
            }
            shipCount = other.shipCount;
            day = other.day;
            reach = other.reach;
            sight = other.sight;
            hunger = other.hunger;
        }

        boolean has(int ship) {
            return ship >= 0 && ship < shipCount;
        }

        int allShips() {
            return (1 << shipCount) - 1;
        }

        int gapToPlace(int ship, int east, int north) {
            return Math.max(Math.abs(ships[ship].east - east), Math.abs(ships[ship].north - north));
        }

        int gap(int one, int other) {
            return gapToPlace(one, ships[other].east, ships[other].north);
        }

        int pairsWithin(int limit) {
            int pairs = 0;
            for (int i = 0; i < shipCount; i++) {
                for (int j = 0; j < i; j++) {
                    if (gap(i, j) <= limit) {
                        pairs++;
                    }
                }
            }
            return pairs;
        }

        boolean isSeen(int ship) {
            for (int i = 0; i < shipCount; i++) {
                if (i != ship && gap(i, ship) <= sight) {
                    return true;
                }
            }
            return false;
        }

        /** The ships (bits) at which one is, or can be by one OPEN lead. */
        int oneLeadOn(int from) {
            int bits = from;
            for (int i = 0; i < shipCount; i++) {
                for (int j = 0; j < shipCount; j++) {
                    if ((from & (1 << i)) != 0 && gap(i, j) <= reach) {
                        bits |= 1 << j;
                    }
                }
            }
            return bits;
        }

        int groupOf(int ship) {
            int bits = 1 << ship;
            for (int i = 1; i < shipCount; i++) {
                bits = oneLeadOn(bits);
            }
            return bits;
        }

        /** The ship nearest to a place, of several the least number, but for one that is left out; NONE. */
        int nearestTo(int east, int north, int leftOut) {
            int nearest = NONE;
            for (int i = 0; i < shipCount; i++) {
                if (i != leftOut
                        && (nearest == NONE || gapToPlace(i, east, north) < gapToPlace(nearest, east, north))) {
                    nearest = i;
                }
            }
            return nearest;
        }

        void airOf(int ofDay, Air air) {
            int today = Math.floorMod(ofDay, WEEK);
            int ahead = Math.floorMod(ofDay - 1, WEEK);
            air.day = ofDay;
            air.east = windEast[today];
            air.north = windNorth[today];
            air.lateEast = windEast[ahead];
            air.lateNorth = windNorth[ahead];
        }

        /** A DAY goes by with this air: its HUNGER, which is not summed up here since most DAYS are in mind. */
        int passDay(Air air, Drift[] drifts) {
            int lacking = 0;
            for (int i = 0; i < shipCount; i++) {
                Ship ship = ships[i];
                Drift drift = drifts[ship.kind];
                ship.east += drift.eastward(air, ship.figure);
                ship.north += drift.northward(air, ship.figure);
                lacking += ship.eat();
            }
            day++;
            return lacking;
        }

        int hungerToCome(int days) {
            int lacking = 0;
            for (int i = 0; i < shipCount; i++) {
                lacking += Math.max(0, days * ships[i].crew - ships[i].bread);
            }
            return lacking;
        }

        /** Its crew and bread go to the nearest other ship; what is left of it neither eats nor lacks. */
        void giveUp(int ship) {
            Ship left = ships[ship];
            int nearest = nearestTo(left.east, left.north, ship);
            if (has(nearest)) {
                Ship heir = ships[nearest];
                heir.crew = Math.min(MOST_CREW, heir.crew + left.crew);
                heir.bread = Math.min(MOST_BREAD, heir.bread + left.bread);
            }
            left.crew = 0;
            left.bread = 0;
        }

        int allBread() {
            int bread = 0;
            for (int i = 0; i < shipCount; i++) {
                bread += ships[i].bread;
            }
            return bread;
        }

        int allCrews() {
            int crews = 0;
            for (int i = 0; i < shipCount; i++) {
                crews += ships[i].crew;
            }
            return crews;
        }
    }

    /** The letters that have come, and how they are read as a PACK. */
    private static final class Letters {
        private static final int FAULT_IN_LETTERS = -1000;
        private static final int FAULT_IN_STATEMENT = -2000;
        private static final int NOWHERE = -1;

        private final int[] signs = new int[MOST_LETTERS];
        int size;
        private int at;
        private boolean stuck;

        void add(int letter) {
            if (size < MOST_LETTERS) {
                signs[size] = letter;
                size++;
            }
        }

        /** How many STATEMENTS came into the draft, or the FAULT (the draft is of no use then); the letters go. */
        int readInto(Ice draft) {
            at = 0;
            stuck = false;
            int faulty = NOWHERE;
            int statements = 0;
            while (statements <= MOST_LETTERS && !stuck && (statements == 0 || at < size)) {
                int start = at;
                boolean isRight = readStatement(draft);
                if (!isRight && faulty == NOWHERE) {
                    faulty = start;
                }
                statements++;
            }
            size = 0;
            if (stuck) {
                return FAULT_IN_LETTERS - at;
            }
            return faulty != NOWHERE ? FAULT_IN_STATEMENT - faulty : statements;
        }

        /** Whether it is as it must be; where its letters are wrong already, stuck tells it. */
        private boolean readStatement(Ice draft) {
            boolean isRight = false;
            if (take('s')) {
                isRight = readShip(draft);
            } else if (take('w')) {
                isRight = readWind(draft);
            } else if (take('r')) {
                isRight = readReach(draft);
            } else if (take('v')) {
                isRight = readSight(draft);
            } else {
                stuck = true;
            }
            need(';');
            return isRight;
        }

        private boolean readShip(Ice draft) {
            int kind = readNumber(1);
            int figure = readNumber(1);
            int crew = readNumber(1);
            int bread = readNumber(3);
            need(',');
            int east = readSigned(2);
            need(',');
            int north = readSigned(2);
            if (kind >= KIND_COUNT || draft.shipCount >= MOST_SHIPS) {
                return false;
            }
            Ship ship = draft.ships[draft.shipCount];
            ship.kind = kind;
            ship.figure = figure;
            ship.crew = crew;
            ship.bread = bread;
            ship.east = east;
            ship.north = north;
            draft.shipCount++;
            return true;
        }

        private boolean readWind(Ice draft) {
            int day = readNumber(1);
            int east = readSigned(1);
            int north = readSigned(1);
            if (day >= WEEK || Math.abs(east) > STRONGEST_WIND || Math.abs(north) > STRONGEST_WIND) {
                return false;
            }
            draft.windEast[day] = east;
            draft.windNorth[day] = north;
            return true;
        }

        private boolean readReach(Ice draft) {
            draft.reach = readNumber(2);
            return draft.reach >= 1 && draft.reach <= MOST_REACH;
        }

        private boolean readSight(Ice draft) {
            draft.sight = readNumber(2);
            return draft.sight >= 1 && draft.sight <= MOST_SIGHT;
        }

        private boolean take(int sign) {
            boolean isIt = !stuck && at < size && signs[at] == sign;
            if (isIt) {
                at++;
            }
            return isIt;
        }

        private void need(int sign) {
            if (!take(sign)) {
                stuck = true;
            }
        }

        private int readSigned(int mostDigits) {
            return take('-') ? -readNumber(mostDigits) : readNumber(mostDigits);
        }

        /** A number of one digit at least; 0 where it lacks. */
        private int readNumber(int mostDigits) {
            int number = 0;
            int digits = 0;
            while (digits < mostDigits && isDigitNext()) {
                number = 10 * number + signs[at] - '0';
                at++;
                digits++;
            }
            if (digits == 0) {
                stuck = true;
            }
            return number;
        }

        private boolean isDigitNext() {
            return !stuck && at < size && signs[at] >= '0' && signs[at] <= '9';
        }
    }
}
