/** The boundary cases of promises 24 to 27: from where to walk home, kinds by a place, rows and their judgement. */
final class PlacesBoundsTest {
    private static final String EAST = "w010;w110;w210;w310;w410;w510;w610;";
    private static final Bounds bounds = new Bounds();

    public static void main(String[] args) {
        homeAtTheEnds();
        homeEastAndNorth();
        homeOfSeveral();
        homeOfNoShips();
        homeFarOff();
        homeRefuses();
        kindsOfNoDays();
        kindsAtTheEnds();
        kindsByTheDay();
        kindsOfAnyPlace();
        kindsRefuse();
        rowAtTheEnds();
        rowRefuses();
        rowFull();
        judgeOfAnEmptyRow();
        judgeEachPlace();
        judgeTheFirst();
        judgeOfAnOddRow();
        judgeOverTheWeek();
        judgeAtTheEnds();
        judgeRefuses();
        bounds.end();
    }

    private static void goesHome(NineInThePack x, String place, int n, int ship, int day, int way) {
        int[] want = {ship, day, way};
        for (int what = 0; what < 3; what++) {
            bounds.call(x, "home(" + place + ", " + n + ", " + what + ")", want[what]);
        }
    }

    private static void homeAtTheEnds() {
        bounds.says("FROM which ship, and behind how many DAYS of 0 .. n one has the least way (FAR from there)");
        NineInThePack x = Due.with("s1000,-99,0;s0000,0,0;", EAST);
        goesHome(x, "60, 0", 0, 1, 0, 60);
        goesHome(x, "60, 0", 1, 1, 1, 59);
        goesHome(x, "60, 0", 59, 1, 59, 1);
        goesHome(x, "60, 0", 60, 1, 60, 0);
        goesHome(x, "61, 0", 60, 1, 60, 1);
        goesHome(x, "-99, 0", 60, 0, 0, 0);
        goesHome(x, "10, 40", 60, 1, 0, 40);
        x.go(1);
        goesHome(x, "61, 0", 60, 1, 60, 0);
        bounds.unchanged("home(2, 5, 0, 0)", 0);
        bounds.unchanged("home(2, 3, 0, 0)", 1);
        bounds.unchanged("home(2, 3, 0, 2)", 1);
        // Ship 0 is at (2, 5) and goes by (-2, -3), then (3, 1).
        bounds.unchanged("home(3, 3, 2, 1)", 2);
        bounds.unchanged("home(3, 3, 2, 2)", 0);
    }

    private static void homeEastAndNorth() {
        bounds.says("FROM which ship (what 0), the DAY (1), how far (2)");
        // The turned one goes a furlong north each day, the plain one a furlong east.
        NineInThePack x = Due.with("s2000,0,0;s0000,0,0;", EAST);
        goesHome(x, "0, 9", 60, 0, 9, 0);
        goesHome(x, "9, 0", 60, 1, 9, 0);
        goesHome(x, "1, 9", 60, 0, 8, 1);
        goesHome(x, "9, 1", 60, 1, 8, 1);
        goesHome(x, "-9, 0", 60, 0, 0, 9);
        goesHome(x, "0, -9", 60, 0, 0, 9);
        goesHome(x, "0, 60", 60, 0, 60, 0);
        goesHome(x, "60, 0", 60, 1, 60, 0);
        goesHome(x, "-3, 60", 60, 0, 57, 3);
    }

    private static void homeOfSeveral() {
        bounds.says("of several the first DAY, then the least number: the ship; the DAY; how far.");
        NineInThePack still = Due.with("s0000,5,0;s0000,-5,0;s0000,0,5;");
        goesHome(still, "0, 0", 60, 0, 0, 5);
        goesHome(still, "-1, 0", 60, 1, 0, 4);
        goesHome(still, "0, 1", 60, 2, 0, 4);
        // Ship 0 has the way of 5 on day 1, ship 1 on day 0: the first day goes ahead of the least number.
        NineInThePack x = Due.with("s0000,-6,0;s1000,5,0;", EAST);
        goesHome(x, "0, 0", 0, 1, 0, 5);
        goesHome(x, "0, 0", 1, 1, 0, 5);
        goesHome(x, "0, 0", 2, 0, 2, 4);
        goesHome(x, "0, 0", 60, 0, 6, 0);
        // On day 3 both plain ships are 2 off, on either side.
        NineInThePack both = Due.with("s0000,-1,0;s0000,-5,0;", EAST);
        goesHome(both, "0, 2", 60, 0, 0, 2);
        goesHome(both, "0, 0", 0, 0, 0, 1);
        goesHome(both, "-3, 0", 0, 0, 0, 2);
        goesHome(both, "-3, 0", 2, 1, 2, 0);
    }

    private static void homeOfNoShips() {
        bounds.says("how far (2); -9 there are none.");
        for (int what = 0; what < 3; what++) {
            int told = what;
            bounds.unchanged(NineInThePack::new, "home(0, 0, 0, " + told + ")", -9);
            bounds.unchanged(NineInThePack::new, "home(9999, -9999, 60, " + told + ")", -9);
            bounds.call(Due.with("s0000,0,0;"), "home(0, 0, 0, " + told + ")", 0);
        }
    }

    private static void homeFarOff() {
        bounds.says("-4 (n below 0; east, north below -9999); -6 (60; 9999)");
        NineInThePack x = Due.with("s0000,99,-99;");
        goesHome(x, "9999, 9999", 60, 0, 0, 10098);
        goesHome(x, "-9999, -9999", 0, 0, 0, 10098);
        goesHome(x, "9999, -9999", 0, 0, 0, 9900);
        goesHome(x, "-9999, 9999", 0, 0, 0, 10098);
    }

    private static void homeRefuses() {
        bounds.says("-4 (n below 0; east, north below -9999); -6 (60; 9999); -2.");
        String[] below = {"0, 0, -1, 0", "0, 0, min, 0", "-10000, 0, 0, 0", "min, 0, 0, 0", "0, -10000, 0, 0", "0, min, 0, 0",
            "0, 0, -1, 3", "-10000, 10000, 61, 3", "10000, -10000, 61, -1", "10000, 10000, -1, 3"};
        String[] above = {"0, 0, 61, 0", "0, 0, max, 0", "10000, 0, 0, 0", "max, 0, 0, 0", "0, 10000, 0, 0", "0, max, 0, 0",
            "0, 0, 61, 3", "10000, 0, 0, -1", "0, 10000, 60, 3", "10000, -9999, 0, 0", "-9999, 10000, 0, 0"};
        String[] other = {"0, 0, 0, -1", "0, 0, 60, 3", "0, 0, 0, min", "0, 0, 0, max", "9999, -9999, 60, 3"};
        homeRefuses(below, -4);
        homeRefuses(above, -6);
        homeRefuses(other, -2);
    }

    private static void homeRefuses(String[] numbers, int no) {
        for (String told : numbers) {
            bounds.refused("home(" + told + ")", no);
            bounds.refused(NineInThePack::new, "home(" + told + ")", no);
        }
    }

    /** By the strongest wind of each day, from a place of its own. */
    private static NineInThePack strong() {
        NineInThePack x = Due.with("s0000,7,-8;");
        for (int day = 0; day < 7; day++) {
            x.blow(day, 4, -4);
        }
        return x;
    }

    private static void kindsAre(NineInThePack x, int figure, int n, int east, int north, int bits) {
        bounds.call(x, "kinds(0, " + figure + ", " + n + ", " + (7 + east) + ", " + (north - 8) + ")", bits);
    }

    private static void kindsOfNoDays() {
        bounds.says("KINDS (bits; FIGURE told) by which a ship that was where one is now would be at a told place behind n DAYS (0 .. 30).");
        NineInThePack x = strong();
        for (int figure : new int[] {0, 9}) {
            kindsAre(x, figure, 0, 0, 0, 63);
            kindsAre(x, figure, 0, 1, 0, 0);
            kindsAre(x, figure, 0, -1, 0, 0);
            kindsAre(x, figure, 0, 0, 1, 0);
            kindsAre(x, figure, 0, 0, -1, 0);
        }
        bounds.unchanged("kinds(2, 9, 0, -12, 12)", 63);
        bounds.unchanged("kinds(2, 9, 0, -12, 13)", 0);
    }

    private static void kindsAtTheEnds() {
        bounds.says("KINDS (bits; FIGURE told) by which a ship that was where one is now would be at a told place behind n DAYS (0 .. 30).");
        NineInThePack x = strong();
        kindsAre(x, 9, 1, 4, -4, 1 + 8);
        kindsAre(x, 9, 1, 11, -2, 32);
        kindsAre(x, 0, 1, 2, -2, 2 + 32);
        kindsAre(x, 9, 1, 4, 4, 4);
        kindsAre(x, 9, 1, -4, -4, 16);
        kindsAre(x, 9, 29, 116, -116, 1 + 8);
        kindsAre(x, 9, 30, 120, -120, 1 + 8);
        kindsAre(x, 9, 30, 121, -120, 0);
        kindsAre(x, 9, 30, 120, -121, 0);
        kindsAre(x, 9, 30, 60, -60, 2);
        kindsAre(x, 0, 30, 60, -60, 2 + 32);
        kindsAre(x, 9, 30, 120, 120, 4);
        // Of figure 9 it goes the other way on days 0, 11 and 22, of figure 0 on each second day.
        kindsAre(x, 9, 30, 96, 96, 16);
        kindsAre(x, 0, 30, 0, 0, 16);
        kindsAre(x, 9, 30, 330, -60, 32);
        kindsAre(x, 1, 30, 90, -60, 32);
    }

    private static void kindsByTheDay() {
        bounds.says("KINDS (bits; FIGURE told) by which a ship that was where one is now would be at a told place behind n DAYS (0 .. 30).");
        NineInThePack x = strong();
        x.go(1);
        // Its place is (11, -12) now; days 11 and 22 are among the thirty.
        bounds.call(x, "kinds(0, 9, 30, 115, 92)", 16);
        bounds.call(x, "kinds(0, 9, 1, 15, -8)", 4 + 16);
        NineInThePack late = Due.with("s5900,0,0;", "w031;w6-4-3;");
        bounds.call(late, "kinds(0, 9, 1, -4, -3)", 8);
        bounds.call(late, "kinds(0, 9, 2, -1, -2)", 8);
        bounds.call(late, "kinds(0, 9, 2, 3, 1)", 1);
    }

    private static void kindsOfAnyPlace() {
        bounds.says("KINDS (bits). -1; -4 (n, figure); -6 (30; 9).");
        for (String place : new String[] {"min, min", "max, max", "min, max", "-10000, 10000", "0, min", "max, 0"}) {
            bounds.unchanged("kinds(0, 9, 30, " + place + ")", 0);
            bounds.unchanged("kinds(0, 0, 0, " + place + ")", 0);
        }
    }

    private static void kindsRefuse() {
        bounds.says("KINDS (bits). -1; -4 (n, figure); -6 (30; 9).");
        String[] nobody = {"-1, 0, 0", "3, 0, 0", "min, 0, 0", "max, 0, 0", "3, -1, 31", "-1, 10, -1"};
        String[] below = {"0, -1, 0", "0, min, 0", "0, 0, -1", "0, 0, min", "0, -1, 31", "0, 10, -1", "2, -1, -1"};
        String[] above = {"0, 10, 0", "0, max, 0", "0, 0, 31", "0, 0, max", "2, 10, 31"};
        kindsRefuse(nobody, -1);
        kindsRefuse(below, -4);
        kindsRefuse(above, -6);
    }

    private static void kindsRefuse(String[] numbers, int no) {
        for (String told : numbers) {
            bounds.refused("kinds(" + told + ", 2, 5)", no);
        }
    }

    private static void rowAtTheEnds() {
        bounds.says("A number more of the ROW: how many.");
        NineInThePack x = new NineInThePack();
        int[] numbers = {-999, 999, -998, 998, 0, -1, 1, -999, 999, 0, 0, 999};
        for (int i = 0; i < numbers.length; i++) {
            bounds.call(x, "row(" + numbers[i] + ")", i + 1);
            bounds.call(x, "count(9)", i + 1);
        }
    }

    private static void rowRefuses() {
        bounds.says("-4 below -999; -6 (999; 12, too).");
        bounds.refused("row(-1000)", -4);
        bounds.refused("row(min)", -4);
        bounds.refused("row(1000)", -6);
        bounds.refused("row(max)", -6);
    }

    private static NineInThePack fullRow() {
        NineInThePack x = Due.with("s0000,3,4;");
        Bounds.row(x, 3, 4, 3, 4, 3, 4, 3, 4, 3, 4, 3, 4);
        return x;
    }

    private static void rowFull() {
        bounds.says("-4 below -999; -6 (999; 12, too).");
        bounds.refused(PlacesBoundsTest::fullRow, "row(3)", -6);
        bounds.refused(PlacesBoundsTest::fullRow, "row(999)", -6);
        bounds.refused(PlacesBoundsTest::fullRow, "row(1000)", -6);
        bounds.refused(PlacesBoundsTest::fullRow, "row(-999)", -6);
        bounds.refused(PlacesBoundsTest::fullRow, "row(-1000)", -4);
        NineInThePack x = fullRow();
        x.row(5);
        bounds.call(x, "judge(0)", -9);
        bounds.call(x, "row(5)", 1);
    }

    private static void judgeOfAnEmptyRow() {
        bounds.says("JUDGED: the place in the ROW of the first number that is not so; -9.");
        NineInThePack x = Due.with("s0000,3,4;");
        bounds.call(x, "judge(0)", -9);
        bounds.call(x, "judge(0)", -9);
        bounds.is("refusals", Due.refusals(x), 0);
    }

    private static void judgeEachPlace() {
        bounds.says("JUDGED; -9 (the ROW has none then).");
        NineInThePack x = Due.with("s0000,4,5;", "w032;w1-4-4;w20-1;w31-2;w440;w5-20;w603;");
        int[] places = {4, 5, 7, 7, 3, 3, 3, 2, 4, 0, 8, 0};
        for (int length = 0; length <= 12; length++) {
            for (int wrong = 0; wrong <= length; wrong++) {
                for (int i = 0; i < length; i++) {
                    x.row(places[i] + (i == wrong ? 1 : 0));
                }
                bounds.is("of " + length + " with " + wrong + " wrong", x.judge(0), wrong == length ? -9 : wrong);
                bounds.is("the row then", x.count(9), 0);
            }
            x = Due.with("s0000,4,5;", "w032;w1-4-4;w20-1;w31-2;w440;w5-20;w603;");
        }
    }

    private static void judgeTheFirst() {
        bounds.says("JUDGED: the place in the ROW of the first number that is not so; -9.");
        NineInThePack x = fullRow();
        x.judge(0);
        Bounds.row(x, 3, 4, 3, 5, 4, 4, 3, 4, 3, 4, 3, 5);
        bounds.call(x, "judge(0)", 3);
        Bounds.row(x, 4, 3);
        bounds.call(x, "judge(0)", 0);
    }

    private static void judgeOfAnOddRow() {
        bounds.says("A ROW of places (east, then north, each -999 .. 999; 12 numbers at most) told of one ship behind 0, 1, .. DAYS");
        NineInThePack x = Due.with("s0000,3,4;", EAST);
        Bounds.row(x, 3);
        bounds.call(x, "judge(0)", -9);
        Bounds.row(x, 4);
        bounds.call(x, "judge(0)", 0);
        Bounds.row(x, 3, 4, 4);
        bounds.call(x, "judge(0)", -9);
        Bounds.row(x, 3, 4, 4, 4, 5, 4, 6, 4, 7, 4, 8);
        bounds.call(x, "judge(0)", -9);
        Bounds.row(x, 3, 4, 4, 4, 5, 4, 6, 4, 7, 4, 9);
        bounds.call(x, "judge(0)", 10);
    }

    private static void judgeOverTheWeek() {
        bounds.says("A ROW of places (east, then north, each -999 .. 999; 12 numbers at most) told of one ship behind 0, 1, .. DAYS");
        NineInThePack x = Due.with("s0000,0,0;s3000,0,0;", "w010;w102;w530;w604;");
        x.go(5);
        Bounds.row(x, 1, 2, 4, 2, 4, 6, 5, 6, 5, 8, 5, 8);
        bounds.call(x, "judge(0)", -9);
        // The late one went by the winds of days 6, 0, 1, and will by those of 4, 5, 6, 0, 1.
        Bounds.row(x, 1, 6, 1, 6, 4, 6, 4, 10, 5, 10, 5, 12);
        bounds.call(x, "judge(1)", -9);
        bounds.call(x, "count(1)", 5);
    }

    private static void judgeAtTheEnds() {
        bounds.says("A ROW of places (east, then north, each -999 .. 999; 12 numbers at most) told of one ship behind 0, 1, .. DAYS");
        String[] winds = {"w040;w140;w240;w340;w440;w540;w640;", "w0-40;w1-40;w2-40;w3-40;w4-40;w5-40;w6-40;"};
        for (int way = 0; way < 2; way++) {
            int sign = way == 0 ? 1 : -1;
            NineInThePack x = Bounds.on(Due.with("s5800," + 99 * sign + ",0;", winds[way]), 90);
            bounds.call(x, "ship(0, 4)", 1000000 + 999 * sign);
            Bounds.row(x, 999 * sign, 0);
            bounds.call(x, "judge(0)", -9);
            Bounds.row(x, 998 * sign, 0);
            bounds.call(x, "judge(0)", 0);
            Bounds.row(x, 999 * sign, 0, 999 * sign);
            bounds.call(x, "judge(0)", 2);
        }
    }

    private static void judgeRefuses() {
        bounds.says("-1 (it stays).");
        for (String ship : new String[] {"-1", "3", "6", "min", "max"}) {
            bounds.refused("judge(" + ship + ")", -1);
            bounds.refused(PlacesBoundsTest::fullRow, "judge(" + ship + ")", -1);
        }
        NineInThePack x = new NineInThePack();
        Bounds.row(x, 1, 2);
        bounds.call(x, "judge(0)", -1);
        bounds.call(x, "count(9)", 2);
        Due.tell(x, "s0000,1,2;");
        bounds.call(x, "judge(0)", -9);
        bounds.call(x, "count(9)", 0);
    }
}
