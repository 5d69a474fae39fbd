/** The boundary cases of promises 9 to 19: two ships and their ways, ways on foot, news, who is lost, groups. */
final class LeadsBoundsTest {
    /** A plain ship goes a furlong east each day, a heavy one stays. */
    private static final String EAST = "w010;w110;w210;w310;w410;w510;w610;";
    private static final String[] NO_TWO = {"-1, 0", "0, -1", "3, 0", "0, 3", "0, 0", "2, 2", "min, 0", "0, min",
        "max, 1", "1, max", "3, 3", "6, 7"};
    private static final Bounds bounds = new Bounds();

    public static void main(String[] args) {
        farOfTwo();
        openByWhat();
        openRefuses();
        behindAtTheEnds();
        behindRefuses();
        meetAtTheEnds();
        meetFirst();
        meetRefuses();
        nearestAtTheEnds();
        nearestOfSeveral();
        nearestRefuses();
        thereOnTheSameShip();
        thereAtTheEnds();
        thereByOneLeadADay();
        thereBeforeItDrifts();
        thereRefuses();
        backAtTheEnds();
        backOnTheFirstAgain();
        backRefuses();
        newsAtTheEnds();
        newsRefuses();
        knowAtTheEnds();
        knowRefuses();
        lostAtTheEnds();
        groupsAtTheEnds();
        bounds.end();
    }

    /** The call with each pair that is no two ships is refused and changes nothing. */
    private static void needsTwo(String before, String behind) {
        for (String pair : NO_TWO) {
            bounds.refused(before + pair + behind, -1);
        }
    }

    /** A plain ship at 0, and a heavy one so far to the east, with a furlong less between them each day. */
    private static NineInThePack nearing(int far) {
        return Due.with("s0000,0,0;s1000," + far + ",0;", EAST);
    }

    /** Six ships in a row, each told so far from the next. */
    private static NineInThePack chain(int step) {
        NineInThePack x = new NineInThePack();
        for (int i = 0; i < 6; i++) {
            Due.tell(x, "s0000," + (i * step - 50) + ",0;");
        }
        return x;
    }

    private static void farOfTwo() {
        bounds.says("FAR. -1 two.");
        bounds.unchanged("far(0, 1)", 1);
        bounds.unchanged("far(1, 0)", 1);
        bounds.unchanged("far(2, 0)", 14);
        needsTwo("far(", ")");
    }

    private static void openByWhat() {
        bounds.says("Whether a lead is OPEN (what 0), they TOUCH (1), SEE each other (2): 1, 0.");
        // Ships 0 and 1 are 1 apart, 0 and 2 are 14, 1 and 2 too; REACH is 12, SIGHT 33.
        String[] pairs = {"0, 1", "1, 0", "0, 2", "2, 1"};
        int[][] want = {{1, 1, 1}, {1, 1, 1}, {0, 0, 1}, {0, 0, 1}};
        for (int i = 0; i < pairs.length; i++) {
            for (int what = 0; what < 3; what++) {
                bounds.unchanged("open(" + pairs[i] + ", " + what + ")", want[i][what]);
            }
        }
    }

    private static void openRefuses() {
        bounds.says("Whether a lead is OPEN (what 0), they TOUCH (1), SEE each other (2): 1, 0. -1 two; -2.");
        needsTwo("open(", ", 0)");
        needsTwo("open(", ", 3)");
        for (String what : new String[] {"-1", "3", "min", "max"}) {
            bounds.refused("open(0, 1, " + what + ")", -2);
        }
    }

    private static NineInThePack fastBy(int east, int north) {
        NineInThePack x = Due.with("s5900,99,-99;");
        for (int day = 0; day < 7; day++) {
            x.blow(day, east, north);
        }
        return x;
    }

    private static void behindAtTheEnds() {
        bounds.says("BEHIND n DAYS (0 .. 60): where a ship is (100000 times what is east, and north, each from where it is now).");
        NineInThePack x = fastBy(4, -4);
        NineInThePack y = fastBy(-4, 4);
        for (int n : new int[] {0, 1, 59, 60}) {
            bounds.call(x, "behind(0, " + n + ")", 1100000L * n - 2 * n);
            bounds.call(y, "behind(0, " + n + ")", -1100000L * n + 2 * n);
        }
        x.go(60);
        bounds.call(x, "behind(0, 0)", 0);
        bounds.call(x, "behind(0, 60)", 66000000 - 120);
        bounds.call(Bounds.on(fastBy(4, 4), 9999), "behind(0, 60)", 66000120);
        bounds.unchanged("behind(0, 0)", 0);
        bounds.unchanged("behind(0, 1)", -200003);
        // All winds of the week once: (1, 2), (-3, 4), (4, -1), (-2, -3), (3, 1), (0, -4), (-4, 2).
        bounds.unchanged("behind(0, 7)", -100000 + 1);
        bounds.unchanged("behind(0, 60)", -800000 + 8 + 100000 * (-2 + 3 + 0 - 4) + (-3 + 1 - 4 + 2));
    }

    private static void behindRefuses() {
        bounds.says("BEHIND. Refused as told: -1; -4; -6 60.");
        for (String ship : new String[] {"-1", "3", "min", "max"}) {
            bounds.refused("behind(" + ship + ", 0)", -1);
            bounds.refused("behind(" + ship + ", -1)", -1);
            bounds.refused("behind(" + ship + ", 61)", -1);
        }
        bounds.refused("behind(0, -1)", -4);
        bounds.refused("behind(2, min)", -4);
        bounds.refused("behind(0, 61)", -6);
        bounds.refused("behind(2, max)", -6);
    }

    private static void meetAtTheEnds() {
        bounds.says("MEET: behind how many DAYS (0 .. 60) two TOUCH first; -9.");
        int[] far = {0, 1, 2, 60, 61, 62, 99};
        int[] days = {0, 0, 1, 59, 60, -9, -9};
        for (int i = 0; i < far.length; i++) {
            int apart = far[i];
            bounds.unchanged(() -> nearing(apart), "meet(0, 1)", days[i]);
            bounds.unchanged(() -> nearing(apart), "meet(1, 0)", days[i]);
        }
        NineInThePack x = Bounds.on(nearing(62), 1);
        bounds.call(x, "meet(0, 1)", 60);
        bounds.call(Bounds.on(nearing(0), 9999), "meet(0, 1)", -9);
        bounds.call(chain(0), "meet(5, 4)", 0);
    }

    private static void meetFirst() {
        bounds.says("MEET: behind how many DAYS (0 .. 60) two TOUCH first; -9.");
        NineInThePack x = nearing(5);
        for (int day = 0; day < 7; day++) {
            bounds.is("on day " + day, x.meet(0, 1), Math.max(0, 4 - day));
            x.go(1);
        }
        bounds.is("they have parted", x.meet(0, 1), -9);
    }

    private static void meetRefuses() {
        bounds.says("MEET; -9. -1 two.");
        needsTwo("meet(", ")");
        bounds.unchanged(() -> nearing(99), "meet(0, 1)", -9);
    }

    private static void nearestAtTheEnds() {
        bounds.says("NEAREST: behind how many DAYS of 0 .. n FAR of two is least");
        int[][] want = {{0, 0, 61}, {1, 1, 60}, {59, 59, 2}, {60, 60, 1}};
        for (int[] due : want) {
            bounds.unchanged(() -> nearing(61), "nearest(0, 1, " + due[0] + ", 0)", due[1]);
            bounds.unchanged(() -> nearing(61), "nearest(1, 0, " + due[0] + ", 1)", due[2]);
        }
        NineInThePack x = nearing(60);
        bounds.call(x, "nearest(0, 1, 60, 0)", 60);
        bounds.call(x, "nearest(0, 1, 60, 1)", 0);
        NineInThePack apart = nearing(-1);
        bounds.call(apart, "nearest(0, 1, 60, 0)", 0);
        bounds.call(apart, "nearest(0, 1, 60, 1)", 1);
    }

    private static void nearestOfSeveral() {
        bounds.says("NEAREST: behind how many DAYS of 0 .. n FAR of two is least, of several the first; how far then.");
        // By one wind a week the plain ship is a furlong nearer behind 1, 8, 15, 22, 29, .. days.
        NineInThePack x = Due.with("s0000,0,0;s1000,5,0;", "w010;");
        int[][] want = {{0, 0, 5}, {1, 1, 4}, {7, 1, 4}, {8, 8, 3}, {28, 22, 1}, {29, 29, 0}, {35, 29, 0}, {60, 29, 0}};
        for (int[] due : want) {
            bounds.call(x, "nearest(0, 1, " + due[0] + ", 0)", due[1]);
            bounds.call(x, "nearest(0, 1, " + due[0] + ", 1)", due[2]);
        }
        NineInThePack still = chain(3);
        bounds.call(still, "nearest(0, 5, 60, 0)", 0);
        bounds.call(still, "nearest(0, 5, 60, 1)", 15);
    }

    private static void nearestRefuses() {
        bounds.says("NEAREST: behind how many (what 0), how far (1). -1 two; -4; -6 60; -2.");
        needsTwo("nearest(", ", 0, 0)");
        needsTwo("nearest(", ", -1, 2)");
        needsTwo("nearest(", ", 61, -1)");
        bounds.refused("nearest(0, 1, -1, 0)", -4);
        bounds.refused("nearest(0, 1, min, 1)", -4);
        bounds.refused("nearest(0, 1, -1, 2)", -4);
        bounds.refused("nearest(0, 1, 61, 0)", -6);
        bounds.refused("nearest(0, 1, max, 1)", -6);
        bounds.refused("nearest(0, 1, 61, -1)", -6);
        for (String what : new String[] {"-1", "2", "min", "max"}) {
            bounds.refused("nearest(0, 1, 60, " + what + ")", -2);
        }
    }

    private static void thereOnTheSameShip() {
        bounds.says("THERE; -9 (one and the same ship: 0).");
        NineInThePack x = chain(20);
        for (int ship = 0; ship < 6; ship++) {
            bounds.call(x, "there(" + ship + ", " + ship + ")", 0);
        }
        bounds.unchanged("there(2, 2)", 0);
    }

    private static void thereAtTheEnds() {
        bounds.says("behind how many DAYS (0 .. 40) he is on another ship at the earliest; -9.");
        for (int reach : new int[] {1, 10, 40}) {
            int[] far = {0, reach, reach + 1, reach + 38, reach + 39, reach + 40};
            int[] days = {1, 1, 2, 39, 40, -9};
            for (int i = 0; i < far.length; i++) {
                NineInThePack x = nearing(far[i]);
                x.set(0, reach);
                bounds.is("there(0, 1) with " + reach + " at " + far[i], x.there(0, 1), days[i]);
                bounds.is("there(1, 0) with " + reach + " at " + far[i], x.there(1, 0), days[i]);
            }
        }
        bounds.unchanged(() -> nearing(50), "there(0, 1)", -9);
        bounds.unchanged(() -> nearing(49), "there(0, 1)", 40);
        bounds.unchanged("there(0, 1)", 1);
        bounds.call(Bounds.on(nearing(50), 1), "there(0, 1)", 40);
    }

    private static void thereByOneLeadADay() {
        bounds.says("THERE: a walker on a ship goes, on each DAY from now on (before it drifts), by no lead or by one that is OPEN");
        NineInThePack x = chain(10);
        for (int to = 0; to < 6; to++) {
            bounds.call(x, "there(0, " + to + ")", to);
            bounds.call(x, "there(5, " + to + ")", 5 - to);
        }
        x.set(0, 20);
        bounds.call(x, "there(0, 5)", 3);
        x.set(0, 9);
        bounds.call(x, "there(0, 1)", -9);
        // The plain ship leaves ship 0 and comes to ship 2 on day 6: he waits on it till then.
        NineInThePack waits = Due.with("s1000,0,0;s0000,9,0;s1000,25,0;", EAST);
        bounds.call(waits, "there(0, 1)", 1);
        bounds.call(waits, "there(1, 2)", 7);
        bounds.call(waits, "there(0, 2)", 7);
        bounds.call(waits, "there(2, 0)", -9);
    }

    private static void thereBeforeItDrifts() {
        bounds.says("THERE: a walker on a ship goes, on each DAY from now on (before it drifts), by no lead or by one that is OPEN");
        NineInThePack x = nearing(-10);
        bounds.call(x, "there(0, 1)", 1);
        x.go(1);
        bounds.call(x, "there(0, 1)", -9);
        NineInThePack y = nearing(11);
        bounds.call(y, "there(0, 1)", 2);
    }

    private static void thereRefuses() {
        bounds.says("THERE; -9 (one and the same ship: 0). -1 either.");
        for (String pair : new String[] {"-1, 0", "0, -1", "3, 0", "0, 3", "3, 3", "-1, -1", "min, max", "max, min", "min, min"}) {
            bounds.refused("there(" + pair + ")", -1);
        }
    }

    private static void backAtTheEnds() {
        bounds.says("BACK: the least number of DAYS (0 .. 40) in which he can have been there and is on the first one again; -9.");
        for (int reach : new int[] {1, 10, 40}) {
            int[] far = {0, reach, reach + 1, reach + 37, reach + 38, reach + 39, reach + 40};
            int[] days = {2, 2, 3, 39, 40, -9, -9};
            for (int i = 0; i < far.length; i++) {
                NineInThePack x = nearing(far[i]);
                x.set(0, reach);
                bounds.is("back(0, 1) with " + reach + " at " + far[i], x.back(0, 1), days[i]);
                bounds.is("back(1, 0) with " + reach + " at " + far[i], x.back(1, 0), days[i]);
            }
        }
        bounds.unchanged(() -> nearing(49), "back(0, 1)", -9);
        bounds.unchanged(() -> nearing(48), "back(0, 1)", 40);
        bounds.unchanged("back(0, 1)", 2);
        NineInThePack x = chain(10);
        bounds.call(x, "back(0, 5)", 10);
        bounds.call(x, "back(2, 3)", 2);
    }

    private static void backOnTheFirstAgain() {
        bounds.says("BACK: the least number of DAYS (0 .. 40) in which he can have been there and is on the first one again; -9.");
        NineInThePack shut = nearing(-10);
        bounds.call(shut, "there(0, 1)", 1);
        bounds.call(shut, "back(0, 1)", -9);
        NineInThePack open = nearing(-9);
        bounds.call(open, "back(0, 1)", 2);
        // Back by another ship, as the lead he came by is shut: to ship 2 on day 1, to ship 0 on day 2.
        NineInThePack round = Due.with("s0000,0,0;s1000,-10,0;s1000,-8,0;", EAST);
        bounds.call(round, "there(0, 1)", 1);
        bounds.call(round, "back(0, 1)", 3);
        round.go(1);
        bounds.call(round, "there(0, 1)", 2);
        bounds.call(round, "back(0, 1)", -9);
    }

    private static void backRefuses() {
        bounds.says("BACK; -9. -1 two.");
        needsTwo("back(", ")");
    }

    private static void newsAtTheEnds() {
        bounds.says("NEWS: behind how many DAYS (0 .. 40) all ships know what one knows now, if on each DAY it goes by all OPEN leads,"
            + " one each DAY; -9");
        bounds.unchanged(() -> Due.with("s0000,0,0;"), "news(0)", 0);
        int[] far = {0, 10, 11, 48, 49, 50};
        int[] days = {1, 1, 2, 39, 40, -9};
        for (int i = 0; i < far.length; i++) {
            int apart = far[i];
            bounds.unchanged(() -> nearing(apart), "news(0)", days[i]);
            bounds.unchanged(() -> nearing(apart), "news(1)", days[i]);
        }
        NineInThePack x = chain(10);
        int[] fromEach = {5, 4, 3, 3, 4, 5};
        bounds.calls(x, "news(", new int[] {0, 1, 2, 3, 4, 5}, ")", fromEach);
        x.set(0, 9);
        bounds.calls(x, "news(", new int[] {0, 1, 2, 3, 4, 5}, ")", -9, -9, -9, -9, -9, -9);
        x.set(0, 40);
        bounds.calls(x, "news(", new int[] {0, 1, 2, 3, 4, 5}, ")", 2, 1, 1, 1, 1, 2);
    }

    private static void newsRefuses() {
        bounds.says("NEWS; -9. -1.");
        for (String ship : new String[] {"-1", "3", "6", "min", "max"}) {
            bounds.refused("news(" + ship + ")", -1);
        }
    }

    private static void knowAtTheEnds() {
        bounds.says("KNOW: ships (bits) that know it behind n DAYS (0 .. 40).");
        NineInThePack x = chain(10);
        bounds.calls(x, "know(0, ", new int[] {0, 1, 2, 4, 5, 6, 39, 40}, ")", 1, 3, 7, 31, 63, 63, 63, 63);
        bounds.calls(x, "know(5, ", new int[] {0, 1, 4, 5, 40}, ")", 32, 48, 62, 63, 63);
        int[] far = {48, 49, 50};
        int[][] want = {{1, 3, 3}, {1, 1, 3}, {1, 1, 1}};
        for (int i = 0; i < far.length; i++) {
            int apart = far[i];
            for (int j = 0; j < 3; j++) {
                bounds.unchanged(() -> nearing(apart), "know(0, " + (38 + j) + ")", want[i][j]);
            }
        }
        // What was open once has brought it, though the lead is shut now.
        bounds.calls(nearing(-10), "know(0, ", new int[] {0, 1, 2, 40}, ")", 1, 3, 3, 3);
        bounds.unchanged("know(2, 0)", 4);
    }

    private static void knowRefuses() {
        bounds.says("KNOW (bits). -1; -4; -6 40.");
        for (String ship : new String[] {"-1", "3", "min", "max"}) {
            bounds.refused("know(" + ship + ", 0)", -1);
            bounds.refused("know(" + ship + ", -1)", -1);
            bounds.refused("know(" + ship + ", 41)", -1);
        }
        bounds.refused("know(0, -1)", -4);
        bounds.refused("know(0, min)", -4);
        bounds.refused("know(0, 41)", -6);
        bounds.refused("know(2, max)", -6);
    }

    private static void lostAtTheEnds() {
        bounds.says("LOST: ships (bits) that none SEES now.");
        bounds.unchanged(NineInThePack::new, "lost()", 0);
        bounds.unchanged(() -> Due.with("s0000,0,0;"), "lost()", 1);
        bounds.unchanged("lost()", 0);
        NineInThePack x = chain(20);
        x.set(1, 20);
        bounds.call(x, "lost()", 0);
        x.set(1, 19);
        bounds.call(x, "lost()", 63);
        NineInThePack one = Due.with("s0000,0,0;s0000,30,0;s0000,0,30;s0000,-31,0;s0000,-31,-31;");
        bounds.call(one, "lost()", 8 + 16);
        Due.tell(one, "s0000,99,99;");
        bounds.call(one, "lost()", 8 + 16 + 32);
        one.set(1, 31);
        bounds.call(one, "lost()", 32);
        NineInThePack now = nearing(31);
        bounds.call(now, "lost()", 3);
        now.go(1);
        bounds.call(now, "lost()", 0);
    }

    private static void groupsAtTheEnds() {
        bounds.says("GROUPS: how many there are, if ships with OPEN leads between them are in one.");
        bounds.unchanged(NineInThePack::new, "groups()", 0);
        bounds.unchanged(() -> Due.with("s0000,0,0;"), "groups()", 1);
        bounds.unchanged("groups()", 2);
        NineInThePack x = chain(10);
        bounds.call(x, "groups()", 1);
        x.set(0, 9);
        bounds.call(x, "groups()", 6);
        x.set(0, 40);
        bounds.call(x, "groups()", 1);
        // The ends of the row are told first, the middle last: two groups become one.
        String parts = "s0000,0,0;s0000,50,0;s0000,10,0;s0000,40,0;s0000,20,0;";
        bounds.call(Due.with(parts), "groups()", 2);
        bounds.call(Due.with(parts, "s0000,30,0;"), "groups()", 1);
        bounds.call(Due.with(parts, "s0000,30,11;"), "groups()", 3);
    }
}
