/** Promises 24 to 27: from where to walk home, kinds by a place, rows of places and their judgement. */
final class PlacesTest {
    private static final String EAST = "w010;w110;w210;w310;w410;w510;w610;";
    private static final String WEEK = "w032;w1-4-4;w20-1;w31-2;w440;w5-20;w603;";
    private static final Due due = new Due();

    public static void main(String[] args) {
        walkingHome();
        homeIsRefused();
        kindsByPlace();
        kindsAreRefused();
        rows();
        judging();
        judgingIsRefused();
        due.end();
    }

    private static void isHome(NineInThePack x, int east, int north, int n, int[] want) {
        for (int what = 0; what < 3; what++) {
            String call = "home(" + east + ", " + north + ", " + n + ", " + what + ")";
            due.is(call, x.home(east, north, n, what), want[what]);
        }
    }

    private static void walkingHome() {
        NineInThePack x = Due.with("s1000,20,0;s0000,0,0;s0000,0,9;", EAST);
        isHome(x, 18, 0, 0, new int[] {0, 0, 2});
        isHome(x, 18, 0, 16, new int[] {0, 0, 2});
        isHome(x, 18, 0, 17, new int[] {1, 17, 1});
        isHome(x, 18, 0, 60, new int[] {1, 18, 0});
        isHome(x, 5, 9, 60, new int[] {2, 5, 0});
        isHome(x, 9999, -9999, 60, new int[] {0, 0, 9999});
        isHome(x, -9999, 9999, 60, new int[] {1, 0, 9999});
        due.is("the day stays", x.count(1), 0);
        x.go(10);
        isHome(x, 18, 0, 60, new int[] {1, 8, 0});
        NineInThePack y = Due.with("s0000,5,0;s0000,-5,0;s0000,5,0;");
        isHome(y, 0, 0, 9, new int[] {0, 0, 5});
        due.is("no ships", new NineInThePack().home(0, 0, 0, 2), -9);
    }

    private static void homeIsRefused() {
        NineInThePack x = new NineInThePack();
        due.is("home(0, 0, -1, 3)", x.home(0, 0, -1, 3), -4);
        due.is("home(-10000, 0, 61, 3)", x.home(-10000, 0, 61, 3), -4);
        due.is("home(10000, -10000, 0, 3)", x.home(10000, -10000, 0, 3), -4);
        due.is("home(10000, 0, -1, 3)", x.home(10000, 0, -1, 3), -4);
        due.is("home(0, 0, 61, 3)", x.home(0, 0, 61, 3), -6);
        due.is("home(10000, 0, 0, 3)", x.home(10000, 0, 0, 3), -6);
        due.is("home(0, 10000, 0, 3)", x.home(0, 10000, 0, 3), -6);
        due.is("home(0, 0, 0, 3)", x.home(0, 0, 0, 3), -2);
        due.is("home(0, 0, 0, -1)", x.home(0, 0, 0, -1), -2);
        due.is("refusals", Due.refusals(x), 9);
    }

    private static void kindsByPlace() {
        NineInThePack x = Due.with("s5900,4,5;", WEEK);
        due.is("in no days", x.kinds(0, 0, 0, 4, 5), 63);
        due.is("elsewhere in no days", x.kinds(0, 0, 0, 5, 5), 0);
        int[][] places = {{7, 7}, {5, 6}, {2, 8}, {4, 8}, {6, 2}, {14, 6}};
        for (int kind = 0; kind < 6; kind++) {
            due.is("kind " + kind, x.kinds(0, 9, 1, places[kind][0], places[kind][1]), 1 << kind);
        }
        due.is("a fast one of figure 0 is heavy", x.kinds(0, 0, 1, 5, 6), 34);
        due.is("figure 8", x.kinds(0, 8, 1, 13, 6), 32);
        due.is("spun by figure 0 in three days", x.kinds(0, 0, 3, 4 + 2 + 4 - 1, 5 - 3 - 4), 16);
        due.is("spun by figure 9 in three days", x.kinds(0, 9, 3, 4 + 2 + 4 + 1, 5 - 3 - 4), 16);
        due.is("a ship in 30 days", x.kinds(0, 9, 30, 4 + 8 + 3 - 4, 5 - 8 + 2 - 4), 1);
        due.is("a place far off", x.kinds(0, 9, 30, Integer.MIN_VALUE, Integer.MAX_VALUE), 0);
        x.go(1);
        due.is("a day later", x.kinds(0, 3, 1, 14 - 4, 6 - 4), 1);
        due.is("turned and spun are one", x.kinds(0, 3, 1, 14 + 4, 6 - 4), 20);
    }

    private static void kindsAreRefused() {
        NineInThePack x = Due.with("s5900,4,5;");
        due.is("kinds(1, -1, 31, 0, 0)", x.kinds(1, -1, 31, 0, 0), -1);
        due.is("kinds(-1, 0, 0, 0, 0)", x.kinds(-1, 0, 0, 0, 0), -1);
        due.is("kinds(0, -1, 31, 0, 0)", x.kinds(0, -1, 31, 0, 0), -4);
        due.is("kinds(0, 10, -1, 0, 0)", x.kinds(0, 10, -1, 0, 0), -4);
        due.is("kinds(0, 10, 0, 0, 0)", x.kinds(0, 10, 0, 0, 0), -6);
        due.is("kinds(0, 0, 31, 0, 0)", x.kinds(0, 0, 31, 0, 0), -6);
    }

    private static void rows() {
        NineInThePack x = new NineInThePack();
        due.is("row(-1000)", x.row(-1000), -4);
        due.is("row(1000)", x.row(1000), -6);
        for (int i = 1; i <= 12; i++) {
            due.is("row", x.row(i % 2 == 0 ? 999 : -999), i);
        }
        due.is("a 13th", x.row(0), -6);
        due.is("below with no room", x.row(-1000), -4);
        due.is("count(9)", x.count(9), 12);
    }

    private static int judged(NineInThePack x, int ship, int... row) {
        for (int v : row) {
            x.row(v);
        }
        int answer = x.judge(ship);
        due.is("the row has none then", x.count(9), 0);
        return answer;
    }

    private static void judging() {
        NineInThePack x = Due.with("s0000,4,5;s2000,-9,0;", WEEK);
        due.is("an empty row", judged(x, 0), -9);
        due.is("all is so", judged(x, 0, 4, 5, 7, 7, 3, 3, 3, 2, 4, 0, 8, 0), -9);
        due.is("the last is not so", judged(x, 0, 4, 5, 7, 7, 3, 3, 3, 2, 4, 0, 8, 1), 11);
        due.is("the first is not so", judged(x, 0, 5, 4), 0);
        due.is("north of now", judged(x, 0, 4, 4, 0), 1);
        due.is("of an odd row", judged(x, 0, 4, 5, 7), -9);
        due.is("of an odd row the last", judged(x, 0, 4, 5, 8), 2);
        due.is("of a turned one", judged(x, 1, -9, 0, -11, 3, -7, -1), -9);
        due.is("of the wrong ship", judged(x, 1, 4), 0);
        x.go(1);
        due.is("from now on", judged(x, 0, 7, 7, 3, 3), -9);
        due.is("the day stays", x.count(1), 1);
    }

    private static void judgingIsRefused() {
        NineInThePack x = Due.with("s0000,4,5;");
        x.row(4);
        x.row(5);
        due.is("judge(1)", x.judge(1), -1);
        due.is("judge(-1)", x.judge(-1), -1);
        due.is("the row stays", x.count(9), 2);
        due.is("judge(0)", x.judge(0), -9);
        due.is("the row has none", x.count(9), 0);
    }
}
