/** The boundary cases of the terms: winds, ships and their kinds, what is far, open, seen, and a day. */
final class TermsBoundsTest {
    private static final int MILLION = 1000000;
    /** Each wind of the week goes another way east. */
    private static final String WEEK = "w010;w120;w230;w340;w4-10;w5-20;w6-30;";
    private static final int[] EAST = {1, 2, 3, 4, -1, -2, -3};
    private static final Bounds bounds = new Bounds();

    public static void main(String[] args) {
        windsOfAWeek();
        dayNought();
        windOfADay();
        shipsAsTheyCome();
        numbersOfAShip();
        reachAndSight();
        plainByTheStrongest();
        heavyCutTowardNought();
        turned();
        lateOnTheFirstOfTheWeek();
        spunOnTheDaysDivided();
        fastBySign();
        farWithoutSign();
        openAtReach();
        openOnADayAsAllAreThen();
        touchAtOne();
        seeAtSight();
        allDrift();
        aMeal();
        bounds.end();
    }

    private static void windsOfAWeek() {
        bounds.says("WINDS of a week: seven, each east (-4 .. 4) and north (-4 .. 4) (0 each at first)");
        NineInThePack x = new NineInThePack();
        for (int day = 0; day < 7; day++) {
            bounds.call(x, "wind(" + day + ")", 44);
        }
        bounds.call(x, "wind(-1)", -1);
        bounds.call(x, "wind(7)", -1);
        bounds.call(x, "blow(0, -4, -4)", 44);
        bounds.call(x, "wind(0)", 0);
        bounds.call(x, "blow(6, 4, 4)", 44);
        bounds.call(x, "wind(6)", 88);
        bounds.call(x, "blow(6, 5, 4)", -6);
        bounds.call(x, "blow(6, 4, 5)", -6);
        bounds.call(x, "blow(0, -5, -4)", -4);
        bounds.call(x, "blow(0, -4, -5)", -4);
        for (int day = 1; day < 6; day++) {
            bounds.call(x, "wind(" + day + ")", 44);
        }
    }

    private static void dayNought() {
        bounds.says("DAY (0 at first)");
        NineInThePack x = new NineInThePack();
        bounds.call(x, "count(1)", 0);
        bounds.call(x, "image()", 0);
    }

    private static void windOfADay() {
        bounds.says("the WIND of a DAY is that of its number modulo 7");
        NineInThePack x = Due.with("s0000,0,0;", WEEK);
        for (int day = 0; day <= 15; day++) {
            bounds.is("day " + day, x.ship(0, 6), MILLION + EAST[day % 7]);
            x.go(1);
        }
        NineInThePack late = Bounds.on(Due.with("s0000,0,0;", WEEK), 9996);
        bounds.is("day 9996 is the first of a week", late.ship(0, 6), MILLION + 1);
        late.go(3);
        bounds.is("day 9999 is the fourth", late.ship(0, 6), MILLION + 4);
    }

    private static void shipsAsTheyCome() {
        bounds.says("SHIPS 0 .. 5 as they come");
        NineInThePack x = new NineInThePack();
        bounds.call(x, "ship(0, 0)", -1);
        for (int i = 0; i < 6; i++) {
            bounds.is("a ship more", Due.tell(x, "s" + (5 - i) + "000,0,0;"), 1);
            bounds.call(x, "count(0)", i + 1);
            bounds.call(x, "ship(" + i + ", 0)", 5 - i);
            bounds.call(x, "ship(" + (i + 1) + ", 0)", -1);
        }
        bounds.is("a seventh", Due.tell(x, "s0000,0,0;"), -2000);
        bounds.call(x, "count(0)", 6);
        bounds.call(x, "ship(5, 0)", 0);
    }

    private static void numbersOfAShip() {
        bounds.says("5 FAST under HEAVY: with a FIGURE (0 .. 9), CREW (0 .. 9), BREAD (0 .. 999)");
        NineInThePack x = Due.with("s0000,0,0;s599999,0,0;");
        bounds.is("KIND 6", Due.tell(x, "s6000,0,0;"), -2000);
        bounds.calls(x, "ship(0, ", new int[] {0, 1, 2, 3}, ")", 0, 0, 0, 0);
        bounds.calls(x, "ship(1, ", new int[] {0, 1, 2, 3}, ")", 5, 9, 9, 999);
    }

    private static void reachAndSight() {
        bounds.says("REACH (1 .. 40 furlongs; 10 at first), SIGHT (1 .. 99; 30 at first)");
        NineInThePack x = new NineInThePack();
        bounds.call(x, "count(2)", 10);
        bounds.call(x, "count(3)", 30);
        String[] packs = {"r1;v1;", "r40;v99;", "r0;", "r41;", "v0;"};
        int[] answers = {2, 2, -2000, -2000, -2000};
        int[] reach = {1, 40, 40, 40, 40};
        int[] sight = {1, 99, 99, 99, 99};
        for (int i = 0; i < packs.length; i++) {
            bounds.is(packs[i], Due.tell(x, packs[i]), answers[i]);
            bounds.call(x, "count(2)", reach[i]);
            bounds.call(x, "count(3)", sight[i]);
        }
    }

    /** How the only ship would drift today by that wind. */
    private static void drifts(NineInThePack x, int east, int north, int dueEast, int dueNorth) {
        int today = x.count(1) % 7;
        x.blow(today, east, north);
        String by = "by " + east + " and " + north;
        bounds.is("east " + by, x.ship(0, 6), MILLION + dueEast);
        bounds.is("north " + by, x.ship(0, 7), MILLION + dueNorth);
    }

    private static void plainByTheStrongest() {
        bounds.says("SHIP by the WIND.");
        NineInThePack x = Due.with("s0900,0,0;");
        for (int v = -4; v <= 4; v++) {
            drifts(x, v, -v, v, -v);
        }
        drifts(x, 4, 4, 4, 4);
        drifts(x, 0, -4, 0, -4);
    }

    private static void heavyCutTowardNought() {
        bounds.says("HEAVY by half of a SHIP's, each cut toward 0.");
        int[] halves = {-2, -1, -1, 0, 0, 0, 1, 1, 2};
        NineInThePack x = Due.with("s1900,0,0;");
        for (int east = -4; east <= 4; east++) {
            for (int north = -4; north <= 4; north++) {
                drifts(x, east, north, halves[east + 4], halves[north + 4]);
            }
        }
    }

    private static void turned() {
        bounds.says("TURNED east by a SHIP's north less, north by a SHIP's east (east becomes 0 less north, north becomes east).");
        NineInThePack x = Due.with("s2900,0,0;");
        drifts(x, 0, 0, 0, 0);
        drifts(x, 4, 0, 0, 4);
        drifts(x, -4, 0, 0, -4);
        drifts(x, 0, 4, -4, 0);
        drifts(x, 0, -4, 4, 0);
        drifts(x, 4, -4, 4, 4);
        drifts(x, -4, 4, -4, -4);
        drifts(x, 1, 3, -3, 1);
    }

    private static void lateOnTheFirstOfTheWeek() {
        bounds.says("LATE by the WIND of the DAY ahead (of the same week: of DAY 0 by the last of seven).");
        NineInThePack x = Due.with("s3900,0,0;", WEEK);
        x.blow(6, -3, 4);
        bounds.is("east on day 0", x.ship(0, 6), MILLION - 3);
        bounds.is("north on day 0", x.ship(0, 7), MILLION + 4);
        for (int day = 1; day <= 15; day++) {
            x.go(1);
            bounds.is("day " + day, x.ship(0, 6), MILLION + EAST[(day - 1) % 7]);
        }
        NineInThePack last = Bounds.on(Due.with("s3900,0,0;", WEEK), 9996);
        bounds.is("day 9996 is the first of a week", last.ship(0, 6), MILLION - 3);
    }

    private static void spunOnTheDaysDivided() {
        bounds.says("SPUN as a TURNED; on DAYS that FIGURE and 2 divides, the other way in both.");
        for (int figure = 0; figure <= 9; figure++) {
            NineInThePack x = Due.with("s4" + figure + "00,0,0;");
            for (int day = 0; day <= 2 * figure + 5; day++) {
                boolean isOther = day == 0 || day == figure + 2 || day == 2 * figure + 4;
                drifts(x, 1, 3, isOther ? 3 : -3, isOther ? -1 : 1);
                x.go(1);
            }
        }
    }

    private static void fastBySign() {
        bounds.says("FAST as a HEAVY, and FIGURE times the sign of the WIND's east more to the east.");
        NineInThePack x = Due.with("s5900,0,0;");
        int[] most = {-11, -10, -10, -9, 0, 9, 10, 10, 11};
        int[] none = {-2, -1, -1, 0, 0, 0, 1, 1, 2};
        for (int east = -4; east <= 4; east++) {
            drifts(x, east, 4, most[east + 4], 2);
            drifts(x, east, -3, most[east + 4], -1);
        }
        NineInThePack y = Due.with("s5000,0,0;");
        for (int east = -4; east <= 4; east++) {
            drifts(y, east, -1, none[east + 4], 0);
        }
    }

    private static NineInThePack two(String one, String other) {
        return Due.with("s0000," + one + ";s0000," + other + ";");
    }

    private static void farWithoutSign() {
        bounds.says("FAR of two ships: the greater of the differences (without sign) east and north.");
        String[][] places = {{"7,7", "7,7"}, {"-99,-99", "99,99"}, {"99,0", "-99,1"}, {"0,-99", "1,99"},
            {"5,9", "4,2"}, {"2,2", "-1,-1"}, {"0,0", "0,1"}, {"0,0", "-1,0"}};
        int[] far = {0, 198, 198, 198, 7, 3, 1, 1};
        for (int i = 0; i < far.length; i++) {
            NineInThePack x = two(places[i][0], places[i][1]);
            bounds.is(places[i][0] + " and " + places[i][1], x.far(0, 1), far[i]);
            bounds.is(places[i][1] + " and " + places[i][0], x.far(1, 0), far[i]);
        }
    }

    /** Two ships so far apart, east or north, are within the limit or not. */
    private static void within(int setWhat, int limit, int what, int far, int want) {
        for (String place : new String[] {far + ",0", "0," + far, -far + ",0", "0,-" + far, far + "," + far}) {
            NineInThePack x = two("0,0", place);
            if (setWhat >= 0) {
                x.set(setWhat, limit);
            }
            bounds.is(place + " with " + limit, x.open(0, 1, what), want);
            bounds.is("from " + place + " with " + limit, x.open(1, 0, what), want);
        }
    }

    private static void openAtReach() {
        bounds.says("A lead between two is OPEN on a DAY (as all are then), if FAR is no more than REACH.");
        for (int reach : new int[] {1, 2, 10, 39, 40}) {
            within(0, reach, 0, 0, 1);
            within(0, reach, 0, reach - 1, 1);
            within(0, reach, 0, reach, 1);
            within(0, reach, 0, reach + 1, 0);
        }
    }

    private static void openOnADayAsAllAreThen() {
        bounds.says("A lead between two is OPEN on a DAY (as all are then), if FAR is no more than REACH.");
        NineInThePack x = Due.with("s0000,0,0;s1000,-9,0;", "w010;w110;");
        int[] open = {1, 1, 0};
        for (int day = 0; day < open.length; day++) {
            bounds.is("on day " + day, x.open(0, 1, 0), open[day]);
            bounds.is("leads on day " + day, x.count(7), open[day]);
            x.go(1);
        }
    }

    private static void touchAtOne() {
        bounds.says("They TOUCH, if FAR is 1 at most.");
        within(-1, 10, 1, 0, 1);
        within(-1, 10, 1, 1, 1);
        within(-1, 10, 1, 2, 0);
        within(0, 40, 1, 2, 0);
        within(1, 99, 1, 2, 0);
    }

    private static void seeAtSight() {
        bounds.says("They SEE each other, if it is no more than SIGHT.");
        for (int sight : new int[] {1, 2, 30, 98}) {
            within(1, sight, 2, 0, 1);
            within(1, sight, 2, sight - 1, 1);
            within(1, sight, 2, sight, 1);
            within(1, sight, 2, sight + 1, 0);
        }
        within(1, 99, 2, 99, 1);
        NineInThePack x = two("-1,0", "99,0");
        x.set(1, 99);
        bounds.call(x, "open(0, 1, 2)", 0);
    }

    private static void allDrift() {
        bounds.says("A DAY: all ships DRIFT");
        NineInThePack x = Due.with("s0900,0,0;s1900,0,0;s2900,0,0;s3900,0,0;s4900,0,0;s5900,0,0;", "w04-3;w6-12;");
        int[][] places = {{4, -3}, {2, -1}, {3, 4}, {-1, 2}, {-3, -4}, {11, -1}};
        x.go(1);
        for (int ship = 0; ship < 6; ship++) {
            bounds.calls(x, "ship(" + ship + ", ", new int[] {4, 5}, ")", MILLION + places[ship][0], MILLION + places[ship][1]);
        }
        x.go(1);
        for (int ship = 0; ship < 6; ship++) {
            int east = ship == 3 ? 4 : 0;
            int north = ship == 3 ? -3 : 0;
            bounds.calls(x, "ship(" + ship + ", ", new int[] {4, 5}, ")",
                MILLION + places[ship][0] + east, MILLION + places[ship][1] + north);
        }
    }

    private static void aMeal() {
        bounds.says("then each eats BREAD, as much as its CREW is (what lacks is HUNGER, summed up); DAY is one more.");
        String[] crewAndBread = {"00", "0999", "10", "90", "98", "99", "910", "9999", "11"};
        int[] lacks = {0, 0, 1, 9, 1, 0, 0, 0, 0};
        int[] left = {0, 999, 0, 0, 0, 0, 1, 990, 0};
        for (int i = 0; i < lacks.length; i++) {
            NineInThePack x = Due.with("s00" + crewAndBread[i] + ",0,0;");
            bounds.is("hunger of " + crewAndBread[i], x.go(1), lacks[i]);
            bounds.is("bread left of " + crewAndBread[i], x.ship(0, 3), left[i]);
            bounds.is("crew of " + crewAndBread[i], x.ship(0, 2), crewAndBread[i].charAt(0) - '0');
            bounds.call(x, "count(1)", 1);
            bounds.call(x, "count(6)", lacks[i]);
        }
        NineInThePack all = Due.with("s0090,0,0;s0098,0,0;s00910,0,0;s0004,0,0;s0011,0,0;s0010,0,0;");
        bounds.call(all, "go(1)", 9 + 1 + 0 + 0 + 0 + 1);
        bounds.call(all, "go(2)", 18 + 18 + 17 + 0 + 2 + 2);
        bounds.call(all, "count(6)", 68);
        bounds.call(all, "count(1)", 3);
    }
}
