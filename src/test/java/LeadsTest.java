/** Promises 14 to 19: ways on foot, and back, news, who knows, who is lost, groups. */
final class LeadsTest {
    private static final String EAST = "w010;w110;w210;w310;w410;w510;w610;";
    private static final Due due = new Due();

    public static void main(String[] args) {
        onFoot();
        onFootWithDrift();
        andBack();
        newsGoesRound();
        whoKnows();
        whoIsLost();
        inGroups();
        refused();
        due.end();
    }

    /** Ships in a row, each one lead from the next. */
    private static NineInThePack chain() {
        return Due.with("s0000,0,0;s0000,10,0;s0000,20,3;s0000,30,0;", "s0000,41,0;");
    }

    private static void onFoot() {
        NineInThePack x = chain();
        due.is("there(0, 0)", x.there(0, 0), 0);
        due.is("there(4, 4)", x.there(4, 4), 0);
        due.is("there(0, 1)", x.there(0, 1), 1);
        due.is("there(0, 2)", x.there(0, 2), 2);
        due.is("there(0, 3)", x.there(0, 3), 3);
        due.is("there(3, 0)", x.there(3, 0), 3);
        due.is("there(0, 4)", x.there(0, 4), -9);
        x.set(0, 11);
        due.is("there(0, 4) with more reach", x.there(0, 4), 4);
        due.is("the day stays", x.count(1), 0);
        due.is("nothing is refused", Due.refusals(x), 0);
    }

    /** A heavy ship stays where a plain one goes one furlong east a day. */
    private static void onFootWithDrift() {
        NineInThePack x = Due.with("s0000,0,0;s1000,49,0;s1000,50,0;", EAST);
        due.is("open on the last day", x.there(0, 1), 40);
        due.is("open a day too late, but by another ship", x.there(0, 2), -9);
        NineInThePack y = Due.with("s0000,0,0;s1000,-10,0;s1000,-9,0;", EAST);
        due.is("the lead of today", y.there(0, 1), 1);
        due.is("to one and on", y.there(1, 2), 1);
        y.go(1);
        due.is("it is shut now, a way round is open", y.there(0, 1), 2);
        y.go(1);
        due.is("all shut", y.there(0, 1), -9);
    }

    private static void andBack() {
        NineInThePack x = chain();
        due.is("back(0, 1)", x.back(0, 1), 2);
        due.is("back(0, 3)", x.back(0, 3), 6);
        due.is("back(0, 4)", x.back(0, 4), -9);
        NineInThePack y = Due.with("s0000,0,0;s1000,-10,0;", EAST);
        due.is("there, and no way back", y.back(0, 1), -9);
        due.is("there", y.there(0, 1), 1);
        NineInThePack z = Due.with("s0000,0,0;s1000,-9,0;", EAST);
        due.is("there and back in time", z.back(0, 1), 2);
        NineInThePack u = Due.with("s0000,0,0;s1000,48,0;s1000,49,0;", EAST);
        due.is("back on the last day", u.back(0, 1), 40);
        due.is("back a day too late", u.back(0, 2), -9);
        due.is("from the other side too", u.back(1, 0), 40);
    }

    private static void newsGoesRound() {
        due.is("news of a lone ship", Due.with("s0000,0,0;").news(0), 0);
        NineInThePack x = chain();
        due.is("one never hears", x.news(0), -9);
        x.set(0, 11);
        due.is("from the end", x.news(0), 4);
        due.is("from the middle", x.news(2), 2);
        NineInThePack y = Due.with("s0000,0,0;s1000,49,0;", EAST);
        due.is("on the last day", y.news(0), 40);
        NineInThePack z = Due.with("s0000,0,0;s1000,50,0;", EAST);
        due.is("a day too late", z.news(0), -9);
    }

    private static void whoKnows() {
        NineInThePack x = chain();
        due.is("know(0, 0)", x.know(0, 0), 1);
        due.is("know(0, 1)", x.know(0, 1), 3);
        due.is("know(0, 2)", x.know(0, 2), 7);
        due.is("know(0, 40)", x.know(0, 40), 15);
        due.is("know(2, 1)", x.know(2, 1), 14);
        due.is("know(4, 40)", x.know(4, 40), 16);
        NineInThePack y = Due.with("s0000,0,0;s1000,49,0;", EAST);
        due.is("a day ahead", y.know(0, 39), 1);
        due.is("on the last day", y.know(0, 40), 3);
        due.is("the day stays", y.count(1), 0);
        y.go(20);
        due.is("twenty days later a day ahead", y.know(0, 19), 1);
        due.is("twenty days later", y.know(0, 20), 3);
        y.set(0, 9);
        due.is("with less reach", y.know(0, 20), 1);
        NineInThePack z = Due.with("s0000,0,0;s1000,10,0;s0000,-10,0;");
        due.is("on the day itself", z.know(0, 1), 7);
        due.is("know(0, 41)", x.know(0, 41), -6);
        due.is("know(0, -1)", x.know(0, -1), -4);
        due.is("know(5, -1)", x.know(5, -1), -1);
    }

    private static void whoIsLost() {
        due.is("no ships", new NineInThePack().lost(), 0);
        due.is("a lone ship", Due.with("s0000,0,0;").lost(), 1);
        NineInThePack x = Due.with("s0000,0,0;s0000,30,0;s0000,61,0;s0000,0,-31;");
        due.is("lost()", x.lost(), 12);
        x.set(1, 31);
        due.is("with more sight", x.lost(), 0);
        x.set(1, 29);
        due.is("with less sight", x.lost(), 15);
    }

    private static void inGroups() {
        due.is("no ships", new NineInThePack().groups(), 0);
        due.is("a lone ship", Due.with("s0000,0,0;").groups(), 1);
        NineInThePack x = chain();
        due.is("groups()", x.groups(), 2);
        x.set(0, 9);
        due.is("with less reach", x.groups(), 5);
        x.set(0, 11);
        due.is("with more reach", x.groups(), 1);
        NineInThePack y = Due.with("s0000,0,0;s0000,50,0;s0000,10,0;s0000,40,0;s0000,30,0;s0000,20,0;");
        due.is("a row told out of order", y.groups(), 1);
        NineInThePack z = Due.with("s0000,0,0;s0000,50,0;s0000,9,0;s0000,59,0;s0000,5,5;s0000,-90,0;");
        due.is("three groups told in turns", z.groups(), 3);
        due.is("as often as asked", z.groups(), 3);
    }

    private static void refused() {
        NineInThePack x = Due.with("s0000,0,0;s0000,1,0;");
        int[] none = {-1, 2, 6, Integer.MIN_VALUE, Integer.MAX_VALUE};
        for (int ship : none) {
            due.is("there(0, " + ship + ")", x.there(0, ship), -1);
            due.is("there(" + ship + ", 0)", x.there(ship, 0), -1);
            due.is("there(" + ship + ", " + ship + ")", x.there(ship, ship), -1);
            due.is("news(" + ship + ")", x.news(ship), -1);
            due.is("know(" + ship + ", 0)", x.know(ship, 0), -1);
        }
        due.is("count(11)", x.count(11), 25);
        due.is("the day stays", x.count(1), 0);
    }
}
