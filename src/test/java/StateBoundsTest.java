/** The boundary cases of promises 1, 4 to 8 and 29 to 31: what is told and set, days, the image, counts, refusals. */
final class StateBoundsTest {
    private static final int MILLION = 1000000;
    private static final Bounds bounds = new Bounds();

    public static void main(String[] args) {
        newObject();
        shipAtTheEnds();
        shipRefuses();
        windRefuses();
        blowAtTheEnds();
        blowRefuses();
        setAtTheEnds();
        setRefuses();
        goAtTheEnds();
        goRefuses();
        goToTheLastDay();
        goOverTheLastDay();
        imageOfNothing();
        imageKeeps();
        imageLeavesOut();
        imageIsTakenAnew();
        restoreRefuses();
        countAtTheEnds();
        countOfAnother();
        refusalsAreCounted();
        refusalsInOrder();
        longRefusals();
        nobodyIsThere();
        otherWhats();
        notAsTold();
        numbersBelow();
        numbersAbove();
        inMind();
        fiveHundredAndTwelveCalls();
        bounds.end();
    }

    private static void newObject() {
        bounds.says("No ships, no WINDS.");
        NineInThePack x = new NineInThePack();
        int[] counts = {0, 0, 10, 30, 0, 0, 0, 0, 0, 0, -9, 0, 0, 0, 0, 0, 0, -9};
        for (int what = 0; what < counts.length; what++) {
            bounds.call(x, "count(" + what + ")", counts[what]);
        }
        for (int day = 0; day < 7; day++) {
            bounds.call(x, "wind(" + day + ")", 44);
        }
        bounds.call(x, "lost()", 0);
        bounds.call(x, "groups()", 0);
        bounds.call(x, "judge(0)", -1);
        bounds.call(x, "pack()", -1000);
        bounds.call(x, "go(60)", 0);
        bounds.call(x, "count(1)", 60);
    }

    private static void shipAtTheEnds() {
        bounds.says("Of a ship: KIND (what 0), FIGURE (1), CREW (2), BREAD (3), 1000000 more than where it is east (4),"
            + " north (5), 1000000 more than how it would DRIFT today east (6), north (7).");
        NineInThePack x = Due.with("s599999,-99,99;s0000,0,-99;", "w0-44;");
        bounds.calls(x, "ship(0, ", new int[] {0, 1, 2, 3, 4, 5, 6, 7}, ")",
            5, 9, 9, 999, MILLION - 99, MILLION + 99, MILLION - 11, MILLION + 2);
        bounds.calls(x, "ship(1, ", new int[] {0, 1, 2, 3, 4, 5, 6, 7}, ")",
            0, 0, 0, 0, MILLION, MILLION - 99, MILLION - 4, MILLION + 4);
        bounds.unchanged("ship(2, 7)", MILLION - 2);
        NineInThePack far = Due.with("s5900,99,-99;");
        for (int day = 0; day < 7; day++) {
            far.blow(day, 4, -4);
        }
        Bounds.on(far, 9999);
        bounds.call(far, "ship(0, 4)", MILLION + 99 + 11 * 9999);
        bounds.call(far, "ship(0, 5)", MILLION - 99 - 2 * 9999);
    }

    private static void shipRefuses() {
        bounds.says("1000000 more than how it would DRIFT today east (6), north (7). -1; -2.");
        bounds.refused("ship(-1, 0)", -1);
        bounds.refused("ship(3, 0)", -1);
        bounds.refused("ship(min, 0)", -1);
        bounds.refused("ship(max, 0)", -1);
        bounds.refused("ship(0, -1)", -2);
        bounds.refused("ship(2, 8)", -2);
        bounds.refused("ship(0, min)", -2);
        bounds.refused("ship(0, max)", -2);
        bounds.refused("ship(3, 8)", -1);
        bounds.refused("ship(-1, -1)", -1);
    }

    private static void windRefuses() {
        bounds.says("The WIND of a number of seven: 10 times 4 more than east, and 4 more than north. -1 (no such number).");
        bounds.unchanged("wind(0)", 56);
        bounds.unchanged("wind(6)", 6);
        bounds.refused("wind(-1)", -1);
        bounds.refused("wind(7)", -1);
        bounds.refused("wind(min)", -1);
        bounds.refused("wind(max)", -1);
    }

    private static void blowAtTheEnds() {
        bounds.says("It becomes so: what it was (told likewise).");
        NineInThePack x = new NineInThePack();
        int[][] winds = {{-4, -4}, {-4, 4}, {4, -4}, {4, 4}, {0, 0}};
        int was = 44;
        for (int[] wind : winds) {
            for (int day : new int[] {0, 6}) {
                bounds.call(x, "blow(" + day + ", " + wind[0] + ", " + wind[1] + ")", was);
                bounds.call(x, "wind(" + day + ")", 44 + 10 * wind[0] + wind[1]);
            }
            was = 44 + 10 * wind[0] + wind[1];
        }
        bounds.call(x, "wind(1)", 44);
        bounds.call(x, "wind(5)", 44);
    }

    private static void blowRefuses() {
        bounds.says("-1; -4 (below -4); -6 (above 4).");
        bounds.refused("blow(-1, 0, 0)", -1);
        bounds.refused("blow(7, 0, 0)", -1);
        bounds.refused("blow(min, 0, 0)", -1);
        bounds.refused("blow(max, 0, 0)", -1);
        bounds.refused("blow(0, -5, 0)", -4);
        bounds.refused("blow(6, 0, -5)", -4);
        bounds.refused("blow(0, min, 0)", -4);
        bounds.refused("blow(0, 0, min)", -4);
        bounds.refused("blow(0, 5, 0)", -6);
        bounds.refused("blow(6, 0, 5)", -6);
        bounds.refused("blow(0, max, 0)", -6);
        bounds.refused("blow(0, 0, max)", -6);
        bounds.refused("blow(7, -5, 5)", -1);
        bounds.refused("blow(-1, 5, 5)", -1);
        bounds.refused("blow(0, -5, 5)", -4);
        bounds.refused("blow(0, 5, -5)", -4);
    }

    private static void setAtTheEnds() {
        bounds.says("REACH (what 0), SIGHT (1) becomes v: what it was.");
        NineInThePack x = new NineInThePack();
        String[] calls = {"set(0, 1)", "set(0, 40)", "set(0, 40)", "set(1, 1)", "set(1, 99)", "set(1, 41)"};
        int[] was = {10, 1, 40, 30, 1, 99};
        int[] reach = {1, 40, 40, 40, 40, 40};
        int[] sight = {30, 30, 30, 1, 99, 41};
        for (int i = 0; i < calls.length; i++) {
            bounds.call(x, calls[i], was[i]);
            bounds.call(x, "count(2)", reach[i]);
            bounds.call(x, "count(3)", sight[i]);
        }
    }

    private static void setRefuses() {
        bounds.says("-2; -4; -6 (40; 99).");
        bounds.refused("set(-1, 1)", -2);
        bounds.refused("set(2, 1)", -2);
        bounds.refused("set(min, 1)", -2);
        bounds.refused("set(max, 1)", -2);
        bounds.refused("set(0, 0)", -4);
        bounds.refused("set(1, 0)", -4);
        bounds.refused("set(0, -1)", -4);
        bounds.refused("set(1, min)", -4);
        bounds.refused("set(0, 41)", -6);
        bounds.refused("set(0, 99)", -6);
        bounds.refused("set(1, 100)", -6);
        bounds.refused("set(0, max)", -6);
        bounds.refused("set(1, max)", -6);
        bounds.refused("set(2, 0)", -2);
        bounds.refused("set(-1, 100)", -2);
    }

    private static void goAtTheEnds() {
        bounds.says("n DAYS (1 .. 60) go by: HUNGER of these.");
        NineInThePack x = Due.with("s00210,0,0;");
        x.blow(0, 1, 0);
        bounds.call(x, "go(1)", 0);
        bounds.call(x, "count(1)", 1);
        bounds.call(x, "ship(0, 3)", 8);
        bounds.call(x, "go(60)", 2 * 60 - 8);
        bounds.call(x, "count(1)", 61);
        bounds.call(x, "go(59)", 2 * 59);
        bounds.call(x, "count(1)", 120);
        bounds.call(x, "count(6)", 2 * 120 - 10);
        bounds.call(x, "ship(0, 4)", MILLION + 18);
        NineInThePack six = Due.with("s0090,0,0;".repeat(6));
        bounds.call(six, "go(60)", 6 * 9 * 60);
    }

    private static void goRefuses() {
        bounds.says("-4; -6 (60; DAY above 9999 then).");
        bounds.refused("go(0)", -4);
        bounds.refused("go(-1)", -4);
        bounds.refused("go(min)", -4);
        bounds.refused("go(61)", -6);
        bounds.refused("go(max)", -6);
    }

    private static NineInThePack onDay(int day) {
        return Bounds.on(Due.with("s0091,0,0;"), day);
    }

    private static void goToTheLastDay() {
        bounds.says("-4; -6 (60; DAY above 9999 then).");
        int[] days = {9939, 9940, 9998};
        for (int day : days) {
            NineInThePack x = onDay(day);
            bounds.call(x, "go(" + (9999 - day) + ")", 9 * (9999 - day));
            bounds.call(x, "count(1)", 9999);
        }
        NineInThePack x = onDay(9999);
        bounds.call(x, "count(6)", 9 * 9999 - 1);
        bounds.call(x, "image()", 9999);
        bounds.call(x, "restore()", 9999);
        bounds.call(x, "hungry(60)", 540);
        bounds.call(x, "behind(0, 60)", 0);
        bounds.call(x, "lots(40, 1, 0)", 360);
    }

    private static void goOverTheLastDay() {
        bounds.says("-4; -6 (60; DAY above 9999 then).");
        bounds.refused(() -> onDay(9940), "go(60)", -6);
        bounds.refused(() -> onDay(9998), "go(2)", -6);
        bounds.refused(() -> onDay(9999), "go(1)", -6);
        bounds.refused(() -> onDay(9999), "go(60)", -6);
        bounds.refused(() -> onDay(9999), "go(61)", -6);
        bounds.refused(() -> onDay(9999), "go(max)", -6);
        bounds.refused(() -> onDay(9999), "go(0)", -4);
    }

    private static void imageOfNothing() {
        bounds.says("THE IMAGE is taken: DAY.");
        NineInThePack x = new NineInThePack();
        bounds.call(x, "image()", 0);
        Due.tell(x, "s0011,1,1;w011;r1;v1;");
        x.go(5);
        bounds.call(x, "restore()", 0);
        bounds.calls(x, "count(", new int[] {0, 1, 2, 3, 4, 5, 6, 7}, ")", 0, 0, 10, 30, 0, 0, 0, 0);
        bounds.call(x, "wind(0)", 44);
        bounds.call(x, "ship(0, 0)", -1);
    }

    private static void imageKeeps() {
        bounds.says("THE IMAGE: all that there is, but it, letters, the ROW, REFUSALS.");
        NineInThePack x = Due.with("s12345,6,-7;s0091,5,-7;", "w044;w6-4-4;r3;v4;");
        x.go(1);
        bounds.call(x, "image()", 1);
        int[][] ships = {{1, 2, 3, 42, MILLION + 8, MILLION - 5}, {0, 0, 9, 0, MILLION + 9, MILLION - 3}};
        x.share(1, 0);
        Due.tell(x, "s0000,0,0;w000;w600;w111;r40;v99;");
        x.blow(3, 1, 1);
        x.go(60);
        bounds.call(x, "restore()", 1);
        bounds.calls(x, "count(", new int[] {0, 1, 2, 3, 4, 5, 6, 7}, ")", 2, 1, 3, 4, 42, 12, 8, 1);
        bounds.calls(x, "wind(", new int[] {0, 1, 2, 3, 4, 5, 6}, ")", 88, 44, 44, 44, 44, 44, 0);
        for (int ship = 0; ship < 2; ship++) {
            bounds.calls(x, "ship(" + ship + ", ", new int[] {0, 1, 2, 3, 4, 5}, ")", ships[ship]);
        }
        bounds.call(x, "ship(2, 0)", -1);
    }

    private static void imageLeavesOut() {
        bounds.says("THE IMAGE: all that there is, but it, letters, the ROW, REFUSALS.");
        NineInThePack x = Due.with("s0000,0,0;");
        x.image();
        Bounds.letters(x, "v5;");
        Bounds.row(x, 0, 1);
        x.go(0);
        x.restore();
        bounds.call(x, "count(8)", 3);
        bounds.call(x, "count(9)", 2);
        bounds.call(x, "count(14)", 1);
        bounds.call(x, "judge(0)", 1);
        bounds.call(x, "pack()", 1);
        x.restore();
        bounds.call(x, "count(8)", 0);
        bounds.call(x, "count(9)", 0);
        x.go(9);
        bounds.call(x, "restore()", 0);
        bounds.call(x, "restore()", 0);
    }

    private static void imageIsTakenAnew() {
        bounds.says("THE IMAGE is taken: DAY.");
        NineInThePack x = Due.with("s0000,0,0;s0000,0,0;");
        x.image();
        x.go(7);
        bounds.call(x, "image()", 7);
        x.go(1);
        bounds.call(x, "restore()", 7);
        x.go(2);
        bounds.call(x, "restore()", 7);
        bounds.call(x, "image()", 7);
        NineInThePack fewer = Due.with("s0000,0,0;");
        fewer.image();
        Due.tell(fewer, "s0000,0,0;".repeat(5));
        bounds.call(fewer, "count(0)", 6);
        fewer.restore();
        bounds.call(fewer, "count(0)", 1);
        bounds.is("room again", Due.tell(fewer, "s5000,0,0;".repeat(5)), 5);
        bounds.call(fewer, "ship(5, 0)", 5);
    }

    private static void restoreRefuses() {
        bounds.says("It is RESTORED: DAY. -3 there is none.");
        bounds.refused(NineInThePack::new, "restore()", -3);
        bounds.refused(() -> onDay(70), "restore()", -3);
        NineInThePack x = onDay(70);
        x.restore();
        bounds.call(x, "image()", 70);
        bounds.call(x, "restore()", 70);
        bounds.call(x, "count(13)", 1);
    }

    private static void countAtTheEnds() {
        bounds.says("0 ships, 1 DAY, 2 REACH, 3 SIGHT, 4 all BREAD, 5 all CREWS, 6 all HUNGER so far, 7 OPEN leads now,"
            + " 8 letters, 9 in the ROW, 11 .. 16 REFUSALS -1 .. -6.");
        int[] some = {3, 3, 12, 33, 78, 15, 20, 1, 3, 4};
        for (int what = 0; what < some.length; what++) {
            bounds.unchanged("count(" + what + ")", some[what]);
        }
        bounds.calls(Bounds.some(), "count(", new int[] {11, 12, 13, 14, 15, 16}, ")", 1, 2, 1, 1, 0, 2);
        NineInThePack full = Due.with("s009999,0,0;".repeat(6));
        full.set(0, 1);
        for (int i = 0; i < 80; i++) {
            full.feed(0);
            full.row(0);
        }
        bounds.calls(full, "count(", new int[] {0, 4, 5, 7, 8, 9, 16}, ")", 6, 6 * 999, 6 * 9, 15, 80, 12, 68);
        NineInThePack apart = Due.with("s0000,0,0;s0000,10,0;s0000,0,-11;");
        bounds.call(apart, "count(7)", 1);
    }

    private static void countOfAnother() {
        bounds.says("-9 for another what.");
        for (String what : new String[] {"-1", "10", "17", "18", "-9", "min", "max"}) {
            bounds.unchanged("count(" + what + ")", -9);
        }
    }

    private static void refusalsAreCounted() {
        bounds.says("REFUSALS (the call answers the number, the first that fits in the order in which it tells them;"
            + " nothing changes but how many there were)");
        String[] calls = {"far(0, 0)", "set(2, 1)", "restore()", "go(0)", "go(61)"};
        int[] whats = {11, 12, 13, 14, 16};
        for (int i = 0; i < calls.length; i++) {
            NineInThePack x = new NineInThePack();
            for (int times = 1; times <= 3; times++) {
                Bounds.answer(x, calls[i]);
                for (int what = 11; what <= 16; what++) {
                    bounds.is(calls[i] + ", count(" + what + ")", x.count(what), what == whats[i] ? times : 0);
                }
            }
        }
    }

    /** Each call told with all of its refusals at once, then without the first, and so on. */
    private static void refusalsInOrder() {
        bounds.says("the first that fits in the order in which it tells them");
        String[][] calls = {
            {"ship(3, 8)", "ship(0, 8)"}, {"blow(7, -5, 5)", "blow(0, -5, 5)", "blow(0, 4, 5)"},
            {"set(2, 0)", "set(0, 0)", "set(0, 41)"}, {"open(0, 0, 3)", "open(0, 1, 3)"},
            {"behind(3, -1)", "behind(0, -1)", "behind(0, 61)"},
            {"nearest(1, 1, -1, 2)", "nearest(0, 1, -1, 2)", "nearest(0, 1, 61, 2)", "nearest(0, 1, 60, 2)"},
            {"know(3, -1)", "know(0, -1)", "know(0, 41)"}, {"share(2, 2)", "share(0, 2)"},
            {"givenUp(-1, 2)", "givenUp(61, 2)", "givenUp(60, 2)"},
            {"home(-10000, 10000, 61, 3)", "home(0, 10000, 61, 3)", "home(0, 0, 60, 3)"},
            {"kinds(3, -1, 31, 0, 0)", "kinds(0, -1, 31, 0, 0)", "kinds(0, 0, 31, 0, 0)"},
            {"lots(0, 1, 2)", "lots(41, 1, 2)", "lots(40, 1, 2)"},
        };
        int[][] numbers = {{-1, -2}, {-1, -4, -6}, {-2, -4, -6}, {-1, -2}, {-1, -4, -6}, {-1, -4, -6, -2},
            {-1, -4, -6}, {-1, -3}, {-4, -6, -2}, {-4, -6, -2}, {-1, -4, -6}, {-4, -6, -2}};
        for (int i = 0; i < calls.length; i++) {
            for (int j = 0; j < calls[i].length; j++) {
                bounds.refused(calls[i][j], numbers[i][j]);
            }
        }
    }

    private static void longRefusals() {
        bounds.says("Of longs 4000000000000000000 less them.");
        NineInThePack x = Bounds.some();
        bounds.call(x, "behind(3, 0)", 4000000000000000001L);
        bounds.call(x, "behind(0, -1)", 4000000000000000004L);
        bounds.call(x, "behind(0, 61)", 4000000000000000006L);
    }

    private static void nobodyIsThere() {
        bounds.says("-1 NOBODY: no such ship, one twice.");
        String[] calls = {"ship(0, 0)", "far(0, 1)", "open(0, 1, 0)", "behind(0, 0)", "meet(0, 1)", "nearest(0, 1, 0, 0)",
            "there(0, 0)", "there(0, 1)", "back(0, 1)", "news(0)", "know(0, 0)", "lasts(0)", "share(0, 1)",
            "kinds(0, 0, 0, 0, 0)", "judge(0)"};
        for (String call : calls) {
            bounds.refused(NineInThePack::new, call, -1);
        }
        for (String call : new String[] {"far(1, 1)", "open(1, 1, 0)", "meet(1, 1)", "nearest(1, 1, 0, 0)", "back(1, 1)",
            "share(1, 1)"}) {
            bounds.refused(call, -1);
        }
    }

    private static void allRefused(int no, String... calls) {
        for (String call : calls) {
            bounds.refused(call, no);
        }
    }

    private static void otherWhats() {
        bounds.says("-2 OTHER: what.");
        allRefused(-2, "ship(0, 8)", "set(2, 1)", "open(0, 1, 3)", "nearest(0, 1, 0, 2)", "givenUp(0, 2)", "home(0, 0, 0, 3)",
            "lots(1, 1, 2)", "ship(0, -1)", "set(-1, 1)", "open(0, 1, -1)", "nearest(0, 1, 0, -1)", "givenUp(0, -1)",
            "home(0, 0, 0, -1)", "lots(1, 1, -1)");
    }

    private static void notAsTold() {
        bounds.says("-3 STATE: it is not as told.");
        allRefused(-3, "share(0, 2)", "share(2, 1)");
        bounds.refused(NineInThePack::new, "restore()", -3);
    }

    private static void numbersBelow() {
        bounds.says("-4 BELOW: a number below the least.");
        allRefused(-4, "feed(-1)", "blow(0, -5, 0)", "blow(0, 0, -5)", "set(0, 0)", "set(1, 0)", "go(0)", "behind(0, -1)",
            "nearest(0, 1, -1, 0)", "know(0, -1)", "hungry(-1)", "givenUp(-1, 0)", "home(0, 0, -1, 0)", "home(-10000, 0, 0, 0)",
            "home(0, -10000, 0, 0)", "kinds(0, -1, 0, 0, 0)", "kinds(0, 0, -1, 0, 0)", "row(-1000)", "lots(0, 1, 0)");
    }

    private static void numbersAbove() {
        bounds.says("-6 ROOM: a number above the greatest, no room.");
        allRefused(-6, "feed(256)", "blow(0, 5, 0)", "blow(0, 0, 5)", "set(0, 41)", "set(1, 100)", "go(61)", "behind(0, 61)",
            "nearest(0, 1, 61, 0)", "know(0, 41)", "hungry(61)", "givenUp(61, 0)", "home(0, 0, 61, 0)", "home(10000, 0, 0, 0)",
            "home(0, 10000, 0, 0)", "kinds(0, 10, 0, 0, 0)", "kinds(0, 0, 31, 0, 0)", "row(1000)", "lots(41, 1, 0)");
    }

    /** Whatever these calls answer, they leave all as it is; nor does one of them mind what another thought of. */
    private static void inMind() {
        bounds.says("In mind, from now");
        String[] calls = {"behind(2, 60)", "meet(0, 2)", "nearest(0, 2, 60, 0)", "there(0, 2)", "back(0, 2)", "news(2)",
            "know(0, 40)", "lost()", "groups()", "hungry(60)", "lasts(2)", "givenUp(60, 0)", "home(99, -99, 60, 2)",
            "kinds(2, 9, 30, 4, 4)", "lots(40, 7, 1)", "lots(40, 7, 0)"};
        NineInThePack all = Bounds.some();
        for (String call : calls) {
            long alone = Bounds.answer(Bounds.some(), call);
            bounds.unchanged(call, alone);
            bounds.is(call + " behind the others", Bounds.answer(all, call), alone);
            bounds.is(call + " again", Bounds.answer(all, call), alone);
        }
        bounds.sameBut("all of them", all, Bounds.some(), 0);
    }

    private static void fiveHundredAndTwelveCalls() {
        bounds.says("An object is used for at most 512 calls after it has been made; what later calls answer is free.");
        NineInThePack x = new NineInThePack();
        for (int i = 0; i < 511; i++) {
            x.feed(-1);
        }
        bounds.call(x, "count(14)", 511);
    }
}
