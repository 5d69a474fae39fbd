/** Promises 20 to 23: hunger to come, how long bread lasts, sharing it, which ship to give up. */
final class BreadTest {
    private static final Due due = new Due();

    public static void main(String[] args) {
        hungerToCome();
        howLongItLasts();
        sharing();
        sharingIsRefused();
        givingUp();
        givingUpToTheNearest();
        givingUpLosesTheRest();
        givingUpIsRefused();
        due.end();
    }

    private static void hungerToCome() {
        NineInThePack x = Due.with("s00510,0,0;s00320,0,0;s0040,0,0;s00099,0,0;");
        due.is("hungry(0)", x.hungry(0), 0);
        due.is("hungry(1)", x.hungry(1), 4);
        due.is("hungry(3)", x.hungry(3), 17);
        due.is("hungry(60)", x.hungry(60), 290 + 160 + 240);
        due.is("hungry(-1)", x.hungry(-1), -4);
        due.is("hungry(61)", x.hungry(61), -6);
        due.is("bread stays", x.count(4), 129);
        due.is("hunger stays", x.count(6), 0);
        int ahead = x.hungry(7);
        due.is("it comes as foretold", x.go(7), ahead);
        due.is("not what has been", x.hungry(1), 5 + 3 + 4);
    }

    private static void howLongItLasts() {
        NineInThePack x = Due.with("s00311,0,0;s0094,0,0;s0000,0,0;s009899,0,0;s001999,0,0;s00198,0,0;");
        int[] days = {3, 0, 99, 99, 99, 98};
        for (int i = 0; i < days.length; i++) {
            due.is("lasts(" + i + ")", x.lasts(i), days[i]);
        }
        due.is("lasts(6)", x.lasts(6), -1);
        due.is("lasts(-1)", x.lasts(-1), -1);
    }

    private static void sharing() {
        NineInThePack x = Due.with("s00210,0,0;s0050,1,-1;s00077,1,0;s0004,0,1;");
        due.is("share(0, 1)", x.share(0, 1), 3);
        due.is("the other has", x.ship(1, 3), 7);
        due.is("share(1, 0)", x.share(1, 0), 8);
        due.is("the other has", x.ship(0, 3), 2);
        due.is("share(2, 3)", x.share(2, 3), 41);
        due.is("the other has", x.ship(3, 3), 40);
        due.is("share(3, 2)", x.share(3, 2), 41);
        due.is("share(2, 0) without a crew", x.share(2, 0), 0);
        due.is("the other has all", x.ship(0, 3), 42);
        NineInThePack y = Due.with("s001999,0,0;s009999,0,0;s000999,1,1;s000998,1,1;");
        due.is("199 and 1 more", y.share(0, 1), 200);
        due.is("no more than 999", y.ship(1, 3), 999);
        due.is("the rest is lost", y.count(4), 200 + 999 + 999 + 998);
        due.is("half each", y.share(3, 2), 999);
        due.is("998 of 1997", y.ship(2, 3), 998);
        due.is("all to a crew", y.share(1, 2), 999);
        due.is("none to no crew", y.ship(2, 3), 0);
        NineInThePack z = Due.with("s0014,0,0;s0009,1,1;");
        due.is("one man alone", z.share(1, 0), 0);
        due.is("has all", z.ship(0, 3), 13);
    }

    private static void sharingIsRefused() {
        NineInThePack x = Due.with("s00210,0,0;s0050,2,0;");
        due.is("share(0, 1)", x.share(0, 1), -3);
        due.is("share(0, 0)", x.share(0, 0), -1);
        due.is("share(0, 2)", x.share(0, 2), -1);
        due.is("count(13)", x.count(13), 1);
        due.is("bread stays", x.ship(0, 3), 10);
    }

    private static void givingUp() {
        NineInThePack x = Due.with("s0010,0,0;s0012,50,0;s00290,5,0;s00610,40,0;");
        due.is("hungry(10)", x.hungry(10), 10 + 8 + 0 + 50);
        // 0 goes to 2: 8 + 50 = 58; 1 to 3: 10 + 58 = 68; 2 to 0: 0 + 8 + 50 = 58; 3 to 1: 10 + 58 = 68.
        due.is("the least of several", x.givenUp(10, 0), 0);
        due.is("hunger then", x.givenUp(10, 1), 58);
        due.is("all the same in no days", x.givenUp(0, 0), 0);
        due.is("no hunger in no days", x.givenUp(0, 1), 0);
        due.is("in mind alone", x.count(4), 102);
        due.is("ships stay", x.count(0), 4);
        NineInThePack y = Due.with("s00120,0,0;s00120,20,0;s0090,10,0;s00120,90,0;");
        // 2 goes to 0, whose crew is 9 then and one man is lost: 70; 0 and 1 go to 2 and leave it the same.
        due.is("givenUp(10, 0)", y.givenUp(10, 0), 0);
        due.is("givenUp(10, 1)", y.givenUp(10, 1), 70);
        NineInThePack z = Due.with("s0010,0,0;s00099,50,0;s0050,60,0;s0010,-9,0;");
        // 1's bread feeds 2: 10 + 0 + 10; the loss of 2 comes to the same, all else leaves 70.
        due.is("a ship in the middle", z.givenUp(10, 0), 1);
        due.is("hunger then", z.givenUp(10, 1), 20);
    }

    /** Bread that goes to a hungry ship helps, and it goes to the nearest, of several to the least number. */
    private static void givingUpToTheNearest() {
        NineInThePack x = Due.with("s00050,0,0;s0010,7,0;s0020,-7,7;s0000,-8,8;s0000,8,0;");
        due.is("its bread goes to ship 1", x.givenUp(20, 1), 40);
        due.is("ship 0 is given up", x.givenUp(20, 0), 0);
        NineInThePack y = Due.with("s00050,0,0;s0010,8,0;s0020,-7,7;s0000,-8,8;s0000,9,0;");
        due.is("its bread goes to ship 2", y.givenUp(20, 1), 20);
        due.is("ship 0 is given up", y.givenUp(20, 0), 0);
    }

    private static void givingUpLosesTheRest() {
        NineInThePack x = Due.with("s009540,0,0;s009999,9,0;");
        due.is("no more than nine men", x.givenUp(60, 1), 0);
        due.is("of both the least number", x.givenUp(60, 0), 0);
        NineInThePack y = Due.with("s009999,0,0;s00999,9,0;", "s0095,90,0;s0095,99,0;");
        // 0 and 1 as one: 0, and 535 twice; 2 and 3 as one: 530, and 441 of ship 1.
        due.is("hunger of two groups", y.givenUp(60, 1), 971);
        due.is("the ship", y.givenUp(60, 0), 2);
        NineInThePack z = Due.with("s000600,0,0;s000600,1,0;s0090,2,0;");
        // 2 goes to 1: nine men with 600, none hungry; 0 goes to 1 and leaves 540 hungry.
        due.is("givenUp(60, 1)", z.givenUp(60, 1), 0);
        due.is("givenUp(60, 0)", z.givenUp(60, 0), 2);
    }

    private static void givingUpIsRefused() {
        NineInThePack x = new NineInThePack();
        due.is("no ships", x.givenUp(60, 1), -9);
        due.is("givenUp(-1, 2)", x.givenUp(-1, 2), -4);
        due.is("givenUp(61, 2)", x.givenUp(61, 2), -6);
        due.is("givenUp(60, 2)", x.givenUp(60, 2), -2);
        due.is("givenUp(60, -1)", x.givenUp(60, -1), -2);
        due.is("refusals", Due.refusals(x), 4);
        due.is("one ship", Due.with("s0010,0,0;").givenUp(5, 0), -9);
    }
}
