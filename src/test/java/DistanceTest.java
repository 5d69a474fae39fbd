/** Promises 9 to 13: how far, what is open, where ships will be, when two touch, when they are nearest. */
final class DistanceTest {
    private static final Due due = new Due();

    public static void main(String[] args) {
        howFar();
        whatIsOpen();
        whereBehind();
        behindRefuses();
        whenTwoMeet();
        whenTheyAreNearest();
        nearestRefuses();
        twoAreNeeded();
        due.end();
    }

    private static void howFar() {
        NineInThePack x = Due.with("s0000,-5,3;s0000,7,-4;s0000,-5,99;");
        due.is("far(0, 1)", x.far(0, 1), 12);
        due.is("far(1, 0)", x.far(1, 0), 12);
        due.is("far(0, 2)", x.far(0, 2), 96);
        due.is("far(2, 1)", x.far(2, 1), 103);
    }

    private static void twoAreNeeded() {
        NineInThePack x = Due.with("s0000,-5,3;s0000,7,-4;");
        int[][] pairs = {{0, 0}, {1, 1}, {0, 2}, {2, 0}, {-1, 0}, {0, -1}, {5, 6}, {Integer.MIN_VALUE, 0},
            {0, Integer.MAX_VALUE}};
        for (int[] p : pairs) {
            String two = "(" + p[0] + ", " + p[1] + ")";
            due.is("far" + two, x.far(p[0], p[1]), -1);
            due.is("open" + two, x.open(p[0], p[1], 9), -1);
            due.is("meet" + two, x.meet(p[0], p[1]), -1);
            due.is("nearest" + two, x.nearest(p[0], p[1], -1, 9), -1);
            due.is("back" + two, x.back(p[0], p[1]), -1);
            due.is("share" + two, x.share(p[0], p[1]), -1);
        }
        due.is("count(11)", x.count(11), 6L * pairs.length);
    }

    private static void whatIsOpen() {
        NineInThePack x = Due.with("s0000,0,0;s0000,1,-1;s0000,10,0;s0000,0,11;s0000,-30,0;s0000,0,-31;");
        int[] open = {0, 1, 1, 0, 0, 0};
        int[] touch = {0, 1, 0, 0, 0, 0};
        int[] see = {0, 1, 1, 1, 1, 0};
        for (int i = 1; i < 6; i++) {
            due.is("open(0, " + i + ", 0)", x.open(0, i, 0), open[i]);
            due.is("open(" + i + ", 0, 1)", x.open(i, 0, 1), touch[i]);
            due.is("open(0, " + i + ", 2)", x.open(0, i, 2), see[i]);
        }
        x.set(0, 31);
        x.set(1, 11);
        due.is("open by more reach", x.open(0, 5, 0), 1);
        due.is("unseen by less sight", x.open(0, 4, 2), 0);
        due.is("open(0, 1, 3)", x.open(0, 1, 3), -2);
        due.is("open(0, 1, -1)", x.open(0, 1, -1), -2);
        NineInThePack y = Due.with("s0000,0,0;s0000,2,0;");
        due.is("two furlongs are no touch", y.open(0, 1, 1), 0);
    }

    private static void whereBehind() {
        NineInThePack x = Due.with("s0000,50,50;s4000,-9,9;s3000,1,2;", "w03-2;w1-41;w64-4;");
        due.is("behind(0, 0)", x.behind(0, 0), 0);
        due.is("behind(0, 1)", x.behind(0, 1), 299998);
        due.is("behind(0, 2)", x.behind(0, 2), -100001);
        due.is("behind(0, 7)", x.behind(0, 7), 300000 - 5);
        due.is("behind(0, 60)", x.behind(0, 60), 23L * 100000 - 41);
        due.is("behind(1, 1)", x.behind(1, 1), -200003);
        due.is("behind(1, 2)", x.behind(1, 2), -300007);
        due.is("behind(2, 1)", x.behind(2, 1), 399996);
        due.is("behind(2, 3)", x.behind(2, 3), 300000 - 5);
        x.go(1);
        due.is("a day later, behind(0, 1)", x.behind(0, 1), -399999);
        due.is("a day later, behind(0, 0)", x.behind(0, 0), 0);
        due.is("the day stays", x.count(1), 1);
        due.is("the place stays", x.ship(0, 4), 1000053);
    }

    private static void behindRefuses() {
        NineInThePack x = Due.with("s0000,50,50;");
        due.is("behind(1, -1)", x.behind(1, -1), 4000000000000000001L);
        due.is("behind(-1, 0)", x.behind(-1, 0), 4000000000000000001L);
        due.is("behind(0, -1)", x.behind(0, -1), 4000000000000000004L);
        due.is("behind(0, 61)", x.behind(0, 61), 4000000000000000006L);
        due.is("behind(0, min)", x.behind(0, Integer.MIN_VALUE), 4000000000000000004L);
        due.is("count(11)", x.count(11), 2);
        due.is("count(14)", x.count(14), 2);
        due.is("count(16)", x.count(16), 1);
    }

    private static void whenTwoMeet() {
        NineInThePack x = Due.with("s0000,0,0;s1000,61,0;s1000,62,0;s1000,1,1;", "w020;w120;w220;w320;w420;w520;w620;");
        due.is("meet(0, 1)", x.meet(0, 1), 60);
        due.is("meet(0, 2)", x.meet(0, 2), -9);
        due.is("meet(0, 3)", x.meet(0, 3), 0);
        due.is("meet(3, 0)", x.meet(3, 0), 0);
        due.is("meet(1, 2)", x.meet(1, 2), 0);
        x.go(1);
        due.is("a day later meet(2, 0)", x.meet(2, 0), 60);
        due.is("a day later meet(1, 0)", x.meet(1, 0), 59);
        due.is("nothing is refused", Due.refusals(x), 0);
    }

    private static void whenTheyAreNearest() {
        NineInThePack x = Due.with("s0000,0,0;s1000,9,0;", "w020;w120;w220;w320;w420;w520;w620;");
        due.is("nearest(0, 1, 0, 0)", x.nearest(0, 1, 0, 0), 0);
        due.is("nearest(0, 1, 0, 1)", x.nearest(0, 1, 0, 1), 9);
        due.is("nearest(0, 1, 5, 0)", x.nearest(0, 1, 5, 0), 5);
        due.is("nearest(1, 0, 5, 1)", x.nearest(1, 0, 5, 1), 4);
        due.is("nearest(0, 1, 60, 0)", x.nearest(0, 1, 60, 0), 9);
        due.is("nearest(0, 1, 60, 1)", x.nearest(0, 1, 60, 1), 0);
        NineInThePack y = Due.with("s0000,0,0;s0000,9,0;");
        due.is("of several the first", y.nearest(0, 1, 60, 0), 0);
        due.is("all the same", y.nearest(0, 1, 60, 1), 9);
    }

    private static void nearestRefuses() {
        NineInThePack x = Due.with("s0000,0,0;s1000,9,0;");
        due.is("nearest(0, 1, -1, 2)", x.nearest(0, 1, -1, 2), -4);
        due.is("nearest(0, 1, 61, 2)", x.nearest(0, 1, 61, 2), -6);
        due.is("nearest(0, 1, 60, 2)", x.nearest(0, 1, 60, 2), -2);
        due.is("nearest(0, 1, 60, -1)", x.nearest(0, 1, 60, -1), -2);
    }
}
