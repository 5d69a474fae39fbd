/** Promises 29 and 30: the image and its return. */
final class ImageTest {
    private static final Due due = new Due();

    public static void main(String[] args) {
        noneAtFirst();
        allComesBack();
        moreThanOnce();
        shipsOfBefore();
        whatIsNotInIt();
        due.end();
    }

    private static void noneAtFirst() {
        NineInThePack x = new NineInThePack();
        due.is("restore()", x.restore(), -3);
        due.is("count(13)", x.count(13), 1);
        due.is("image()", x.image(), 0);
        due.is("restore()", x.restore(), 0);
        due.is("count(13)", x.count(13), 1);
    }

    private static void allComesBack() {
        NineInThePack x = Due.with("s00920,1,2;", "w011;w122;w233;");
        x.go(3);
        due.is("image()", x.image(), 3);
        x.go(5);
        x.blow(0, -4, -4);
        x.set(0, 3);
        x.set(1, 4);
        Due.tell(x, "s0000,9,9;");
        due.is("day", x.count(1), 8);
        due.is("restore()", x.restore(), 3);
        int[] counts = {1, 3, 10, 30, 0, 9, 7, 0};
        for (int what = 0; what < counts.length; what++) {
            due.is("count(" + what + ")", x.count(what), counts[what]);
        }
        due.is("wind(0)", x.wind(0), 55);
        due.is("east", x.ship(0, 4), 1000007);
        due.is("north", x.ship(0, 5), 1000008);
        due.is("ship(1, 0)", x.ship(1, 0), -1);
    }

    private static void moreThanOnce() {
        NineInThePack x = Due.with("s00999,1,2;");
        x.image();
        x.go(1);
        due.is("restore()", x.restore(), 0);
        x.go(2);
        due.is("it is there still", x.restore(), 0);
        due.is("bread", x.ship(0, 3), 99);
        x.go(7);
        due.is("a newer one", x.image(), 7);
        x.go(1);
        due.is("is the one that comes", x.restore(), 7);
        due.is("bread", x.ship(0, 3), 36);
    }

    private static void shipsOfBefore() {
        NineInThePack x = new NineInThePack();
        x.image();
        Due.tell(x, "s12345,6,7;");
        due.is("restore()", x.restore(), 0);
        due.is("count(0)", x.count(0), 0);
        due.is("ship(0, 0)", x.ship(0, 0), -1);
        Due.tell(x, "s54321,0,-1;");
        due.is("a ship anew", x.ship(0, 0), 5);
        due.is("bread of it", x.ship(0, 3), 21);
    }

    private static void whatIsNotInIt() {
        NineInThePack x = Due.with("s00999,1,2;");
        x.feed('r');
        x.row(1);
        x.go(0);
        x.image();
        x.feed('5');
        x.feed(';');
        x.row(2);
        x.go(0);
        x.go(61);
        x.restore();
        due.is("letters stay", x.count(8), 3);
        due.is("the row stays", x.count(9), 2);
        due.is("refusals stay", x.count(14), 2);
        due.is("refusals stay", x.count(16), 1);
        due.is("judge(0)", x.judge(0), -9);
        due.is("pack()", x.pack(), 1);
        due.is("reach", x.count(2), 5);
    }
}
