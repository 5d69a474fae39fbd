/** Promises 2 and 3: letters that come, and packs told in them. */
final class LettersTest {
    private static final Due due = new Due();

    public static void main(String[] args) {
        feeding();
        statements();
        faultsOfLetters();
        faultsOfStatements();
        lettersGoBeforeStatements();
        roomForSix();
        allOrNothing();
        due.end();
    }

    private static void is(String text, int want) {
        due.is("a pack of \"" + text + "\"", Due.tell(new NineInThePack(), text), want);
    }

    private static void feeding() {
        NineInThePack x = new NineInThePack();
        due.is("feed(-1)", x.feed(-1), -4);
        due.is("feed(256)", x.feed(256), -6);
        due.is("feed(min)", x.feed(Integer.MIN_VALUE), -4);
        due.is("feed(max)", x.feed(Integer.MAX_VALUE), -6);
        due.is("feed(0)", x.feed(0), 1);
        due.is("feed(255)", x.feed(255), 2);
        for (int i = 3; i <= 80; i++) {
            due.is("feed('s')", x.feed('s'), i);
        }
        due.is("the 81st", x.feed('s'), -6);
        due.is("below with no room", x.feed(-1), -4);
        due.is("count(8)", x.count(8), 80);
        due.is("count(14)", x.count(14), 3);
        due.is("count(16)", x.count(16), 3);
        due.is("pack()", x.pack(), -1000);
        due.is("letters are no more", x.count(8), 0);
        due.is("feed again", x.feed('r'), 1);
    }

    private static void statements() {
        NineInThePack x = new NineInThePack();
        due.is("pack", Due.tell(x, "s1234,-5,-67;w6-43;r40;v99;s00000,0,-0;r07;"), 6);
        int[] ship = {1, 2, 3, 4, 999995, 999933};
        for (int what = 0; what < 6; what++) {
            due.is("ship(0, " + what + ")", x.ship(0, what), ship[what]);
        }
        due.is("a ship of noughts", x.ship(1, 5), 1000000);
        due.is("wind(6)", x.wind(6), 7);
        due.is("the last reach stays", x.count(2), 7);
        due.is("sight", x.count(3), 99);
        due.is("letters are no more", x.count(8), 0);
        is("s599999,99,-99;", 1);
        is("s000000,00,-00;", 1);
        is("r1;", 1);
        is("r01;", 1);
        is("v1;", 1);
        is("w0-0-0;", 1);
        is("w04-4;w1-44;", 2);
        is("r1;r1;r1;r1;r1;r1;r1;r1;r1;r1;r1;r1;r1;r1;r1;r1;r1;r1;r1;r1;r1;r1;r1;r1;r1;r10;", 26);
    }

    private static void faultsOfLetters() {
        is("", -1000);
        is(";", -1000);
        is("x", -1000);
        is("S0000,0,0;", -1000);
        is("s", -1001);
        is("s0", -1002);
        is("s000,0,0;", -1004);
        is("s0000,", -1006);
        is("s00001234,0,0;", -1007);
        is("s0000,-,0;", -1007);
        is("s0000,--1,0;", -1007);
        is("s0000,+1,0;", -1006);
        is("s0000,123,0;", -1008);
        is("s0000,12;", -1008);
        is("s0000,12,345;", -1011);
        is("s0000,12,34", -1011);
        is("s0000,12,34,", -1011);
        is("s-000,1,1;", -1001);
        is("s0000-1,1;", -1005);
        is("s000-1,1,1;", -1004);
        is("w", -1001);
        is("w-1", -1001);
        is("w012", -1004);
        is("w0123;", -1004);
        is("w0-12;", 1);
        is("w0-123;", -1005);
        is("w0--12;", -1003);
        is("w0-1", -1004);
        is("r", -1001);
        is("r;", -1001);
        is("r-1;", -1001);
        is("r123;", -1003);
        is("r1", -1002);
        is("r12", -1003);
        is("v;", -1001);
        is("v100;", -1003);
        is("v1;r1", -1005);
        is("v1;;", -1003);
        is("v1; r1;", -1003);
        is("v1;q", -1003);
        is("v1" + (char) 187, -1002);
        due.is("faults are not counted", faultsCounted(), 0);
    }

    private static int faultsCounted() {
        NineInThePack x = new NineInThePack();
        x.pack();
        Due.tell(x, "s6000,0,0;");
        Due.tell(x, "zz");
        return Due.refusals(x);
    }

    private static void faultsOfStatements() {
        is("s6000,0,0;", -2000);
        is("s9000,0,0;", -2000);
        is("r1;s6000,0,0;", -2003);
        is("w700;", -2000);
        is("w900;", -2000);
        is("w050;", -2000);
        is("w005;", -2000);
        is("w0-50;", -2000);
        is("w00-5;", -2000);
        is("r0;", -2000);
        is("r00;", -2000);
        is("r41;", -2000);
        is("r99;", -2000);
        is("v0;", -2000);
        is("v00;", -2000);
        is("v9;w000;r41;w900;", -2008);
    }

    private static void lettersGoBeforeStatements() {
        is("r0;r", -1004);
        is("s6000,0,0;s0000,0,0", -1019);
        is("r0;v0;!", -1006);
    }

    private static void roomForSix() {
        String three = "s0000,0,0;s0000,0,0;s0000,0,0;";
        is(three + three, 6);
        is(three + three + "s0000,0,0;", -2060);
        NineInThePack x = Due.with(three, "s0000,0,0;");
        due.is("three more than room", Due.tell(x, "r5;" + three), -2023);
        due.is("reach is as it was", x.count(2), 10);
        due.is("four ships", x.count(0), 4);
        due.is("two more", Due.tell(x, "s0000,0,0;s5000,9,0;"), 2);
        due.is("six ships", x.count(0), 6);
        due.is("the last", x.ship(5, 0), 5);
        due.is("a seventh", Due.tell(x, "s0000,0,0;"), -2000);
        due.is("a wind needs no room", Due.tell(x, "w011;"), 1);
    }

    private static void allOrNothing() {
        NineInThePack x = Due.with("s0055,1,1;");
        due.is("a fault at the end", Due.tell(x, "s1177,2,2;w033;r3;v3;w700;"), -2021);
        due.is("ships", x.count(0), 1);
        due.is("wind", x.wind(0), 44);
        due.is("reach", x.count(2), 10);
        due.is("sight", x.count(3), 30);
        due.is("a letter that lacks", Due.tell(x, "s1177,2,2;w033;r3;v3;w6"), -1023);
        due.is("ships", x.count(0), 1);
        due.is("wind", x.wind(0), 44);
        due.is("all of it", Due.tell(x, "s1177,2,2;w033;r3;v3;"), 4);
        due.is("ships", x.count(0), 2);
        due.is("wind", x.wind(0), 77);
        due.is("reach", x.count(2), 3);
        due.is("sight", x.count(3), 3);
    }
}
