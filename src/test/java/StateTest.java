/** Promises 1 and 4 to 8, and 31: a new object, ships, winds, what is set, days that go by, counts. */
final class StateTest {
    private static final String WEEK = "w032;w1-4-4;w20-1;w31-2;w440;w5-20;w603;";
    private static final Due due = new Due();

    public static void main(String[] args) {
        newObject();
        shipIsTold();
        shipRefuses();
        driftOfKinds();
        lateWrapsOverTheWeek();
        spunByFigure();
        fastBySign();
        winds();
        blowRefuses();
        setting();
        daysGoBy();
        goRefuses();
        lastDay();
        counts();
        refusalsAreCounted();
        due.end();
    }

    private static void newObject() {
        NineInThePack x = new NineInThePack();
        due.is("new count(0)", x.count(0), 0);
        due.is("new count(1)", x.count(1), 0);
        due.is("new count(2)", x.count(2), 10);
        due.is("new count(3)", x.count(3), 30);
        for (int what = 4; what <= 9; what++) {
            due.is("new count(" + what + ")", x.count(what), 0);
        }
        for (int what = 11; what <= 16; what++) {
            due.is("new count(" + what + ")", x.count(what), 0);
        }
        for (int day = 0; day < 7; day++) {
            due.is("new wind(" + day + ")", x.wind(day), 44);
        }
        due.is("new restore()", x.restore(), -3);
    }

    private static void shipIsTold() {
        NineInThePack x = Due.with("s597123,-45,67;s00090,0,-9;");
        int[] first = {5, 9, 7, 123, 999955, 1000067, 1000000, 1000000};
        for (int what = 0; what < first.length; what++) {
            due.is("ship(0, " + what + ")", x.ship(0, what), first[what]);
        }
        due.is("ship(1, 0)", x.ship(1, 0), 0);
        due.is("ship(1, 3)", x.ship(1, 3), 90);
        due.is("ship(1, 5)", x.ship(1, 5), 999991);
    }

    private static void shipRefuses() {
        NineInThePack x = Due.with("s00090,0,-9;");
        due.is("ship(-1, 0)", x.ship(-1, 0), -1);
        due.is("ship(1, 0)", x.ship(1, 0), -1);
        due.is("ship(1, 8)", x.ship(1, 8), -1);
        due.is("ship(0, 8)", x.ship(0, 8), -2);
        due.is("ship(0, -1)", x.ship(0, -1), -2);
        due.is("ship(max, 0)", x.ship(Integer.MAX_VALUE, 0), -1);
        due.is("ship(min, 0)", x.ship(Integer.MIN_VALUE, 0), -1);
    }

    private static void driftOfKinds() {
        NineInThePack x = Due.with("s0900,0,0;s1900,0,0;s2900,0,0;s3900,0,0;s4300,0,0;s5900,0,0;", WEEK);
        int[][] drifts = {
            {3, 2, 1, 1, -2, 3, 0, 3, 2, -3, 10, 1},
            {-4, -4, -2, -2, 4, -4, 3, 2, 4, -4, -11, -2},
            {0, -1, 0, 0, 1, 0, -4, -4, 1, 0, 0, 0},
            {1, -2, 0, -1, 2, 1, 0, -1, 2, 1, 9, -1},
            {4, 0, 2, 0, 0, 4, 1, -2, 0, 4, 11, 0},
            {-2, 0, -1, 0, 0, -2, 4, 0, 0, 2, -10, 0},
        };
        for (int day = 0; day < drifts.length; day++) {
            for (int i = 0; i < 12; i++) {
                String call = "day " + day + " ship(" + i / 2 + ", " + (6 + i % 2) + ")";
                due.is(call, x.ship(i / 2, 6 + i % 2), 1000000 + drifts[day][i]);
            }
            x.go(1);
        }
        int[] places = new int[12];
        for (int[] drift : drifts) {
            for (int i = 0; i < 12; i++) {
                places[i] += drift[i];
            }
        }
        for (int i = 0; i < 12; i++) {
            due.is("day 6 ship(" + i / 2 + ", " + (4 + i % 2) + ")", x.ship(i / 2, 4 + i % 2), 1000000 + places[i]);
        }
    }

    private static void lateWrapsOverTheWeek() {
        NineInThePack x = Due.with("s3000,0,0;", "w043;w621;");
        due.is("day 0 of a late one", x.ship(0, 6), 1000002);
        x.go(1);
        due.is("day 1 of a late one", x.ship(0, 6), 1000004);
        x.go(6);
        due.is("day 7 of a late one", x.ship(0, 6), 1000002);
        due.is("where it is on day 7", x.ship(0, 4), 1000006);
    }

    private static void spunByFigure() {
        NineInThePack x = Due.with("s4000,0,0;s4900,0,0;s4500,0,0;");
        for (int day = 0; day < 7; day++) {
            x.blow(day, 1, 3);
        }
        int[] steps = {2, 11, 7};
        for (int day = 0; day < 24; day++) {
            for (int i = 0; i < 3; i++) {
                boolean other = day % steps[i] == 0;
                due.is("day " + day + " ship(" + i + ", 6)", x.ship(i, 6), other ? 1000003 : 999997);
                due.is("day " + day + " ship(" + i + ", 7)", x.ship(i, 7), other ? 999999 : 1000001);
            }
            x.go(1);
        }
    }

    private static void fastBySign() {
        NineInThePack x = Due.with("s5400,0,0;s5000,0,0;");
        int[] winds = {-4, -3, -1, 0, 1, 3, 4};
        int[] fast = {-6, -5, -4, 0, 4, 5, 6};
        int[] plain = {-2, -1, 0, 0, 0, 1, 2};
        for (int i = 0; i < winds.length; i++) {
            x.blow(0, winds[i], winds[i]);
            due.is("fast by " + winds[i], x.ship(0, 6), 1000000 + fast[i]);
            due.is("fast by " + winds[i] + " north", x.ship(0, 7), 1000000 + plain[i]);
            due.is("fast of figure 0 by " + winds[i], x.ship(1, 6), 1000000 + plain[i]);
        }
    }

    private static void winds() {
        NineInThePack x = new NineInThePack();
        due.is("blow(0, -4, 4)", x.blow(0, -4, 4), 44);
        due.is("wind(0)", x.wind(0), 8);
        due.is("blow(0, 4, -4)", x.blow(0, 4, -4), 8);
        due.is("wind(0)", x.wind(0), 80);
        due.is("blow(6, 1, -2)", x.blow(6, 1, -2), 44);
        due.is("wind(6)", x.wind(6), 52);
        due.is("wind(3)", x.wind(3), 44);
        due.is("wind(7)", x.wind(7), -1);
        due.is("wind(-1)", x.wind(-1), -1);
        due.is("wind(min)", x.wind(Integer.MIN_VALUE), -1);
        due.is("count(11)", x.count(11), 3);
    }

    private static void blowRefuses() {
        NineInThePack x = new NineInThePack();
        due.is("blow(7, 9, -9)", x.blow(7, 9, -9), -1);
        due.is("blow(-1, 0, 0)", x.blow(-1, 0, 0), -1);
        due.is("blow(0, -5, 0)", x.blow(0, -5, 0), -4);
        due.is("blow(0, 0, -5)", x.blow(0, 0, -5), -4);
        due.is("blow(0, 5, -5)", x.blow(0, 5, -5), -4);
        due.is("blow(0, -5, 5)", x.blow(0, -5, 5), -4);
        due.is("blow(0, 5, 0)", x.blow(0, 5, 0), -6);
        due.is("blow(0, 0, 5)", x.blow(0, 0, 5), -6);
        due.is("blow(0, max, min)", x.blow(0, Integer.MAX_VALUE, Integer.MIN_VALUE), -4);
        due.is("wind(0) after refusals", x.wind(0), 44);
    }

    private static void setting() {
        NineInThePack x = new NineInThePack();
        due.is("set(0, 40)", x.set(0, 40), 10);
        due.is("set(0, 1)", x.set(0, 1), 40);
        due.is("count(2)", x.count(2), 1);
        due.is("set(1, 99)", x.set(1, 99), 30);
        due.is("set(1, 1)", x.set(1, 1), 99);
        due.is("count(3)", x.count(3), 1);
        due.is("set(0, 41)", x.set(0, 41), -6);
        due.is("set(0, 0)", x.set(0, 0), -4);
        due.is("set(1, 100)", x.set(1, 100), -6);
        due.is("set(1, 0)", x.set(1, 0), -4);
        due.is("set(1, 41)", x.set(1, 41), 1);
        due.is("set(2, 0)", x.set(2, 0), -2);
        due.is("set(-1, 5)", x.set(-1, 5), -2);
        due.is("count(2) after refusals", x.count(2), 1);
        due.is("count(3) after refusals", x.count(3), 41);
    }

    private static void daysGoBy() {
        NineInThePack x = Due.with("s00510,0,0;s0020,5,5;s0004,1,1;", WEEK);
        due.is("go(1)", x.go(1), 2);
        due.is("bread after a day", x.ship(0, 3), 5);
        due.is("go(2)", x.go(2), 9);
        due.is("bread after three", x.ship(0, 3), 0);
        due.is("bread without crew", x.ship(2, 3), 4);
        due.is("count(6)", x.count(6), 11);
        due.is("count(1)", x.count(1), 3);
        due.is("east after three", x.ship(0, 4), 999999);
        due.is("north after three", x.ship(0, 5), 999997);
        due.is("go(60)", x.go(60), 60 * 7);
        due.is("count(6)", x.count(6), 11 + 60 * 7);
        NineInThePack y = Due.with("s0035,0,0;");
        due.is("a part of a meal", y.go(2), 1);
        due.is("none is left", y.ship(0, 3), 0);
    }

    private static void goRefuses() {
        NineInThePack x = Due.with("s0011,0,0;", WEEK);
        due.is("go(0)", x.go(0), -4);
        due.is("go(-1)", x.go(-1), -4);
        due.is("go(min)", x.go(Integer.MIN_VALUE), -4);
        due.is("go(61)", x.go(61), -6);
        due.is("go(max)", x.go(Integer.MAX_VALUE), -6);
        due.is("count(1) after refusals", x.count(1), 0);
        due.is("bread after refusals", x.ship(0, 3), 1);
    }

    private static void lastDay() {
        NineInThePack x = Due.with("s5900,0,0;");
        for (int day = 0; day < 7; day++) {
            x.blow(day, 4, -4);
        }
        for (int i = 0; i < 166; i++) {
            x.go(60);
        }
        due.is("day 9960", x.count(1), 9960);
        due.is("go(40) over the last day", x.go(40), -6);
        due.is("go(39) to the last day", x.go(39), 0);
        due.is("day 9999", x.count(1), 9999);
        due.is("where the fast one is", x.ship(0, 4), 1000000 + 11 * 9999);
        due.is("north", x.ship(0, 5), 1000000 - 2 * 9999);
        due.is("go(1) over the last day", x.go(1), -6);
        due.is("go(0) on the last day", x.go(0), -4);
        due.is("behind goes on", x.behind(0, 60), 100000L * 660 - 120);
    }

    private static void counts() {
        NineInThePack x = Due.with("s003100,0,0;s014200,10,0;s02550,0,-11;");
        x.feed('s');
        x.feed(';');
        x.row(5);
        due.is("count(0)", x.count(0), 3);
        due.is("count(4)", x.count(4), 350);
        due.is("count(5)", x.count(5), 12);
        due.is("count(7)", x.count(7), 1);
        x.set(0, 11);
        due.is("count(7) with more reach", x.count(7), 3);
        due.is("count(8)", x.count(8), 2);
        due.is("count(9)", x.count(9), 1);
        due.is("count(10)", x.count(10), -9);
        due.is("count(17)", x.count(17), -9);
        due.is("count(-1)", x.count(-1), -9);
        due.is("count(max)", x.count(Integer.MAX_VALUE), -9);
        due.is("count(min)", x.count(Integer.MIN_VALUE), -9);
        due.is("no refusals", Due.refusals(x), 0);
    }

    private static void refusalsAreCounted() {
        NineInThePack x = new NineInThePack();
        x.ship(0, 0);
        x.set(2, 0);
        x.set(2, 0);
        for (int i = 0; i < 3; i++) {
            x.restore();
        }
        for (int i = 0; i < 4; i++) {
            x.go(0);
        }
        for (int i = 0; i < 5; i++) {
            x.go(61);
        }
        int[] due6 = {1, 2, 3, 4, 0, 5};
        for (int i = 0; i < 6; i++) {
            due.is("count(" + (11 + i) + ")", x.count(11 + i), due6[i]);
        }
    }
}
