/** The boundary cases of promise 28: days with winds by lot. */
final class LotsBoundsTest {
    private static final Bounds bounds = new Bounds();

    public static void main(String[] args) {
        hungerAtTheEnds();
        pairsAtTheEnds();
        pairsAtSight();
        firstDraws();
        drawsWithoutSign();
        allKindsByTheDraws();
        lateOnesByNoneAtFirst();
        lateOnesByTheOneAhead();
        spunOnesByTheDay();
        fortyDays();
        inMind();
        refused();
        bounds.end();
    }

    private static void hungerAtTheEnds() {
        bounds.says("HUNGER of these DAYS");
        bounds.calls(Due.with("s0090,0,0;".repeat(6)), "lots(", new int[] {1, 2, 39, 40}, ", 5, 0)", 54, 108, 2106, 2160);
        bounds.calls(Due.with("s009360,0,0;"), "lots(", new int[] {1, 39, 40}, ", 5, 0)", 0, 0, 0);
        bounds.calls(Due.with("s009359,0,0;"), "lots(", new int[] {1, 39, 40}, ", 5, 0)", 0, 0, 1);
        bounds.call(new NineInThePack(), "lots(40, 5, 0)", 0);
    }

    private static void pairsAtTheEnds() {
        bounds.says("how many pairs SEE each other then");
        int[] pairs = {0, 0, 1, 3, 6, 10, 15};
        NineInThePack x = new NineInThePack();
        for (int ships = 0; ships <= 6; ships++) {
            bounds.is("of " + ships, x.lots(40, 77, 1), pairs[ships]);
            Due.tell(x, "s0000,5,5;");
        }
    }

    private static void pairsAtSight() {
        bounds.says("how many pairs SEE each other then");
        NineInThePack x = Due.with("s0000,0,0;s0000,30,0;s0000,0,61;");
        int[] sights = {29, 30, 31, 60, 61};
        int[] pairs = {0, 1, 1, 1, 3};
        for (int i = 0; i < sights.length; i++) {
            x.set(1, sights[i]);
            bounds.is("with " + sights[i], x.lots(40, -3, 1), pairs[i]);
        }
    }

    /** In a day by lot a ship of such a kind and figure goes just so far; a late one marks the place, as it stays. */
    private static void goesBy(String kindAndFigure, int day, int z, int east, int north) {
        int[][] off = {{0, 0}, {2, 0}, {-2, 0}, {0, 2}, {0, -2}};
        for (int[] by : off) {
            NineInThePack x = Due.with("s" + kindAndFigure + "00,0,0;s3000," + (east + by[0]) + "," + (north + by[1]) + ";v1;");
            if (day > 0) {
                x.go(day);
            }
            String told = kindAndFigure + " on day " + day + " by " + z + " at " + by[0] + " and " + by[1] + " off";
            bounds.is(told, x.lots(1, z, 1), by == off[0] ? 1 : 0);
        }
    }

    /** Of seed 1 the draws are 16838, 5758, 10113, 17515, .. ahead of modulo, as the C standard's example has them. */
    private static void firstDraws() {
        bounds.says("DRAWS: z becomes z times 1103515245 and 12345 (an int); a DRAW below n is (z without its sign's bit by 65536, cut)"
            + " modulo n.");
        goesBy("00", 0, 1, 4, 3);
        goesBy("00", 0, 0, -4, -1);
        goesBy("00", 0, 12345, -1, 3);
    }

    /** Two seeds that differ in the sign's bit alone draw the same. */
    private static void drawsWithoutSign() {
        bounds.says("(z without its sign's bit by 65536, cut) modulo n.");
        goesBy("00", 0, Integer.MIN_VALUE, -4, -1);
        goesBy("00", 0, -1, 4, 4);
        goesBy("00", 0, Integer.MAX_VALUE, 4, 4);
        goesBy("00", 0, Integer.MIN_VALUE + 1, 4, 3);
    }

    private static void allKindsByTheDraws() {
        bounds.says("the WIND of each drawn: east a DRAW below 9 less 4, north likewise");
        goesBy("10", 0, 1, 2, 1);
        goesBy("20", 0, 1, -3, 4);
        goesBy("50", 0, 1, 2, 1);
        goesBy("59", 0, 1, 11, 1);
        goesBy("59", 0, 0, -11, 0);
    }

    private static void lateOnesByNoneAtFirst() {
        bounds.says("(LATE ones by the one ahead, at first by none: 0 each)");
        NineInThePack x = Due.with("s0000,0,0;s3000,4,3;v1;", "w644;w044;");
        bounds.call(x, "lots(1, 1, 1)", 1);
        x.go(1);
        bounds.is("a wind of the week is none of these", x.lots(1, 1, 1), 1);
        NineInThePack far = Due.with("s0000,0,0;s3000,6,3;v1;", "w644;w044;");
        bounds.call(far, "lots(1, 1, 1)", 0);
    }

    /** The winds of seed 1: (4, 3), (2, -3), (-3, -2): what a late one lacks behind n days is the last of them. */
    private static void lateOnesByTheOneAhead() {
        bounds.says("(LATE ones by the one ahead, at first by none: 0 each)");
        int[][] last = {{4, 3}, {2, -3}, {-3, -2}, {2, -1}, {-1, -4}};
        for (int n = 1; n <= last.length; n++) {
            int east = last[n - 1][0];
            int north = last[n - 1][1];
            bounds.call(Due.with("s0000,0,0;s3000," + east + "," + north + ";v1;"), "lots(" + n + ", 1, 1)", 1);
            bounds.call(Due.with("s0000,0,0;s3000," + (east + 2) + "," + north + ";v1;"), "lots(" + n + ", 1, 1)", 0);
            bounds.call(Due.with("s0000,0,0;s3000," + (east - 2) + "," + north + ";v1;"), "lots(" + n + ", 1, 1)", 0);
            bounds.call(Due.with("s0000,0,0;s3000," + east + "," + (north + 2) + ";v1;"), "lots(" + n + ", 1, 1)", 0);
            bounds.call(Due.with("s0000,0,0;s3000," + east + "," + (north - 2) + ";v1;"), "lots(" + n + ", 1, 1)", 0);
        }
    }

    private static void spunOnesByTheDay() {
        bounds.says("LOTS: n DAYS (1 .. 40) with a seed z, in mind");
        goesBy("40", 0, 1, 3, -4);
        goesBy("40", 1, 1, -3, 4);
        goesBy("40", 2, 1, 3, -4);
        goesBy("49", 10, 1, -3, 4);
        goesBy("49", 11, 1, 3, -4);
        goesBy("49", 12, 1, -3, 4);
        // Behind two days from day 0 of figure 0: (3, -4), then the turned way of (2, -3), which is (3, 2).
        bounds.call(Due.with("s2000,0,0;s4000,-12,16;v1;"), "lots(2, 1, 1)", 0);
        bounds.call(Due.with("s2000,0,0;s4000,-6,8;v1;"), "lots(2, 1, 1)", 1);
    }

    /** The forty winds of seed 1 sum up to (-24, 7), so a turned one goes (-7, -24). */
    private static void fortyDays() {
        bounds.says("LOTS: n DAYS (1 .. 40) with a seed z, in mind");
        int[][] off = {{0, 0, 1}, {2, 0, 0}, {-2, 0, 0}, {0, 2, 0}, {0, -2, 0}};
        for (int[] by : off) {
            NineInThePack x = Due.with("s0000,0,0;s2000," + (-17 + by[0]) + "," + (31 + by[1]) + ";v1;");
            bounds.call(x, "lots(40, 1, 1)", by[2]);
        }
    }

    private static void inMind() {
        bounds.says("LOTS: n DAYS (1 .. 40) with a seed z, in mind");
        bounds.unchanged("lots(1, 1, 0)", 8);
        bounds.unchanged("lots(40, 1, 0)", 15 * 40 - 78);
        bounds.unchanged("lots(40, min, 0)", 15 * 40 - 78);
        NineInThePack x = Bounds.some();
        bounds.is("as often as asked", x.lots(40, 9, 1), x.lots(40, 9, 1));
    }

    private static void refused() {
        bounds.says("LOTS: HUNGER (what 0), pairs (1). -4; -6 40; -2.");
        String[] calls = {"lots(0, 1, 0)", "lots(-1, 1, 0)", "lots(min, 1, 1)", "lots(0, 1, 2)", "lots(41, 1, 0)", "lots(max, 1, 1)",
            "lots(41, 1, -1)", "lots(40, 1, -1)", "lots(1, 1, 2)", "lots(1, 1, min)", "lots(40, 1, max)"};
        int[] numbers = {-4, -4, -4, -4, -6, -6, -6, -2, -2, -2, -2};
        for (int i = 0; i < calls.length; i++) {
            bounds.refused(calls[i], numbers[i]);
            bounds.refused(NineInThePack::new, calls[i], numbers[i]);
        }
    }
}
