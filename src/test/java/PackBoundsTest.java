/** The boundary cases of promises 2 and 3: letters that come, and packs told in them. */
final class PackBoundsTest {
    private static final String DIGITS = "0123456789";
    /** 76 letters, four under the most. */
    private static final String NINETEEN = "r10;".repeat(19);
    private static final Bounds bounds = new Bounds();

    public static void main(String[] args) {
        feedAtTheEnds();
        feedRefuses();
        feedFull();
        eightyLetters();
        eachWithItsEnd();
        lettersOfAShip();
        lettersOfAWind();
        lettersOfReach();
        lettersOfSight();
        howManyStatements();
        atLeastOne();
        theEndIfSomethingLacks();
        firstWrongLetter();
        numbersAtTheirBounds();
        noRoom();
        firstWrongStatement();
        lettersAheadOfStatements();
        allOrNothing();
        lettersAreNoMore();
        nothingIsCounted();
        bounds.end();
    }

    private static void packIs(String text, int want) {
        bounds.is("a pack of " + text, Due.tell(new NineInThePack(), text), want);
    }

    private static NineInThePack full() {
        NineInThePack x = new NineInThePack();
        Bounds.letters(x, NINETEEN + "v77;");
        return x;
    }

    private static void feedAtTheEnds() {
        bounds.says("A letter comes: how many there are.");
        NineInThePack x = new NineInThePack();
        bounds.call(x, "feed(0)", 1);
        bounds.call(x, "feed(1)", 2);
        bounds.call(x, "feed(254)", 3);
        bounds.call(x, "feed(255)", 4);
        for (int i = 5; i <= 80; i++) {
            bounds.call(x, "feed(59)", i);
        }
        bounds.call(x, "count(8)", 80);
    }

    private static void feedRefuses() {
        bounds.says("-4; -6 (255; 80, too).");
        bounds.refused("feed(-1)", -4);
        bounds.refused("feed(min)", -4);
        bounds.refused("feed(256)", -6);
        bounds.refused("feed(max)", -6);
    }

    private static void feedFull() {
        bounds.says("-4; -6 (255; 80, too).");
        bounds.refused(PackBoundsTest::full, "feed(115)", -6);
        bounds.refused(PackBoundsTest::full, "feed(0)", -6);
        bounds.refused(PackBoundsTest::full, "feed(256)", -6);
        bounds.refused(PackBoundsTest::full, "feed(-1)", -4);
        NineInThePack x = full();
        x.feed(';');
        bounds.call(x, "pack()", 20);
        bounds.call(x, "count(3)", 77);
        bounds.call(x, "feed(115)", 1);
    }

    private static void eightyLetters() {
        bounds.says("A PACK is told in letters, one by one (80 at most)");
        packIs(NINETEEN + "v77;", 20);
        packIs("s000000,-10,-10;".repeat(5), 5);
        packIs("r1;".repeat(26), 26);
    }

    private static void eachWithItsEnd() {
        bounds.says("STATEMENTS, each with \";\" behind");
        packIs("r1;", 1);
        packIs("r1", -1002);
        packIs("r1v1;", -1002);
        packIs("r1;;", -1003);
        packIs("r1;v1", -1005);
        goesOn("r1;", "swrv");
    }

    /** Behind these letters just those can come: each other one is the first with which no pack can go on. */
    private static void goesOn(String letters, String next) {
        int fault = -1000 - letters.length();
        for (int letter = 0; letter <= 255; letter++) {
            int answer = Due.tell(new NineInThePack(), letters + (char) letter);
            boolean isStuck = answer == fault;
            bounds.is(letters + " and letter " + letter, isStuck ? 1 : 0, next.indexOf(letter) < 0 ? 1 : 0);
        }
    }

    private static void lettersOfAShip() {
        bounds.says("\"s\" KIND, FIGURE, CREW (a digit each), BREAD (1 to 3 digits), \",\", east, \",\", north"
            + " (each perhaps \"-\", then 1 or 2 digits): a ship more");
        for (String letters : new String[] {"s", "s5", "s59", "s599", "s0000,-", "s0000,1,-"}) {
            goesOn(letters, DIGITS);
        }
        for (String letters : new String[] {"s5999", "s59999", "s0000,1", "s0000,-1"}) {
            goesOn(letters, DIGITS + ",");
        }
        for (String letters : new String[] {"s599999", "s0000,12", "s0000,-12"}) {
            goesOn(letters, ",");
        }
        goesOn("s0000,", DIGITS + "-");
        goesOn("s0000,1,", DIGITS + "-");
        goesOn("s0000,1,2", DIGITS + ";");
        goesOn("s0000,1,-2", DIGITS + ";");
        goesOn("s0000,1,23", ";");
        goesOn("s0000,1,-23", ";");
        NineInThePack x = Due.with("s0001,-99,99;s00012,9,-9;s000123,-0,00;s000007,0,0;");
        int[][] want = {{1, 999901, 1000099}, {12, 1000009, 999991}, {123, 1000000, 1000000}, {7, 1000000, 1000000}};
        for (int ship = 0; ship < want.length; ship++) {
            bounds.calls(x, "ship(" + ship + ", ", new int[] {3, 4, 5}, ")", want[ship]);
        }
    }

    private static void lettersOfAWind() {
        bounds.says("\"w\" a number of seven (0 .. 6), east, north (each perhaps \"-\", then a digit)");
        goesOn("w", DIGITS);
        goesOn("w0", DIGITS + "-");
        goesOn("w0-", DIGITS);
        goesOn("w01", DIGITS + "-");
        goesOn("w0-1", DIGITS + "-");
        goesOn("w01-", DIGITS);
        goesOn("w0-1-", DIGITS);
        goesOn("w012", ";");
        goesOn("w0-12", ";");
        goesOn("w01-2", ";");
        goesOn("w0-1-2", ";");
        NineInThePack x = Due.with("w0-4-4;w644;w3-0-0;");
        bounds.calls(x, "wind(", new int[] {0, 3, 6}, ")", 0, 44, 88);
    }

    private static void lettersOfReach() {
        bounds.says("\"r\" REACH (1 or 2 digits)");
        goesOn("r", DIGITS);
        goesOn("r1", DIGITS + ";");
        goesOn("r10", ";");
        NineInThePack x = Due.with("r01;");
        bounds.call(x, "count(2)", 1);
        bounds.is("r9;", Due.tell(x, "r9;"), 1);
        bounds.call(x, "count(2)", 9);
        bounds.call(x, "count(3)", 30);
    }

    private static void lettersOfSight() {
        bounds.says("\"v\" SIGHT (1 or 2 digits)");
        goesOn("v", DIGITS);
        goesOn("v9", DIGITS + ";");
        goesOn("v99", ";");
        NineInThePack x = Due.with("v01;");
        bounds.call(x, "count(3)", 1);
        bounds.is("v9;", Due.tell(x, "v9;"), 1);
        bounds.call(x, "count(3)", 9);
        bounds.call(x, "count(2)", 10);
    }

    private static void howManyStatements() {
        bounds.says("how many STATEMENTS; the FAULT");
        StringBuilder text = new StringBuilder();
        for (int statements = 1; statements <= 26; statements++) {
            text.append("r").append(1 + statements % 9).append(";");
            packIs(text.toString(), statements);
        }
        packIs("s0000,0,0;w000;r1;v1;", 4);
        packIs("v1;v1;v1;", 3);
    }

    private static void atLeastOne() {
        bounds.says("At least one STATEMENT.");
        bounds.call(new NineInThePack(), "pack()", -1000);
        packIs(";", -1000);
        packIs("v1;", 1);
        goesOn("", "swrv");
    }

    /** Each beginning of a pack lacks something, but where a statement ends. */
    private static void theEndIfSomethingLacks() {
        bounds.says("FAULT: kind 1 the place of the first letter with which no PACK can go on (the end, if something lacks):"
            + " -1000 less the place");
        String pack = "s599999,-99,-99;w6-4-4;r40;v99;s0000,0,0;w000;r1;v1;";
        int statements = 0;
        for (int end = 0; end <= pack.length(); end++) {
            boolean isWhole = end > 0 && pack.charAt(end - 1) == ';';
            statements += isWhole ? 1 : 0;
            packIs(pack.substring(0, end), isWhole ? statements : -1000 - end);
        }
        packIs(NINETEEN + "r10", -1079);
        packIs(NINETEEN + "s000", -1080);
    }

    private static void firstWrongLetter() {
        bounds.says("FAULT: kind 1 the place of the first letter with which no PACK can go on (the end, if something lacks):"
            + " -1000 less the place");
        packIs("x", -1000);
        packIs("xxxx", -1000);
        packIs("rr;x", -1001);
        packIs("r1;xr1;x", -1003);
        packIs(NINETEEN + "x10;", -1076);
        packIs(NINETEEN + "r10x", -1079);
    }

    private static void numbersAtTheirBounds() {
        bounds.says("(a number out of range, no room): -2000 less the place.");
        String[] right = {"s0000,0,0;", "s5000,0,0;", "w000;", "w600;", "w040;", "w0-40;", "w004;", "w00-4;",
            "r1;", "r40;", "v1;", "v99;"};
        String[] wrong = {"s6000,0,0;", "s9000,0,0;", "w700;", "w900;", "w050;", "w0-50;", "w005;", "w00-5;",
            "w090;", "w00-9;", "r0;", "r00;", "r41;", "r99;", "v0;", "v00;"};
        for (String statement : right) {
            packIs(statement, 1);
            packIs("r1;" + statement, 2);
        }
        for (String statement : wrong) {
            packIs(statement, -2000);
            packIs("r1;" + statement, -2003);
            packIs(statement + "r1;", -2000);
        }
    }

    private static void noRoom() {
        bounds.says("(a number out of range, no room): -2000 less the place.");
        String six = "s0000,0,0;".repeat(6);
        packIs(six, 6);
        packIs(six + "s0000,0,0;", -2060);
        packIs("r9;" + six + "v9;s0000,0,0;", -2066);
        NineInThePack x = Due.with(six);
        bounds.is("a seventh", Due.tell(x, "v9;s0000,0,0;"), -2003);
        bounds.is("none is needed", Due.tell(x, "v9;w000;r1;"), 3);
        bounds.call(x, "count(0)", 6);
        NineInThePack y = Due.with("s0000,0,0;".repeat(5));
        bounds.is("two with room for one", Due.tell(y, "s0000,0,0;s0000,0,0;"), -2010);
        bounds.call(y, "count(0)", 5);
        bounds.is("one with room for one", Due.tell(y, "s0000,0,0;"), 1);
    }

    private static void firstWrongStatement() {
        bounds.says("else kind 2 the place of the first letter of the first STATEMENT that is not as it must be");
        packIs("r0;v0;w700;s6000,0,0;", -2000);
        packIs("r1;v0;w700;s6000,0,0;", -2003);
        packIs("r1;v1;w700;s6000,0,0;", -2006);
        packIs("r1;v1;w600;s6000,0,0;", -2011);
        packIs(NINETEEN + "r41;", -2076);
        packIs("r10;".repeat(17) + "r1;r1;r1;v0;", -2077);
    }

    private static void lettersAheadOfStatements() {
        bounds.says("else kind 2 the place of the first letter of the first STATEMENT that is not as it must be");
        packIs("r0;x", -1003);
        packIs("r0;v1", -1005);
        packIs("s6000,0,0;w7-9-9", -1016);
        packIs("s0000,0,0;".repeat(7) + ";", -1070);
    }

    private static void allOrNothing() {
        bounds.says("Without FAULT all of it comes, with one nothing.");
        String[] faulty = {"s1111,1,1;w011;r1;v1;r0;", "s1111,1,1;w011;r1;v1;x", "s1111,1,1;w011;r1;v1;r1",
            "w044;s6000,0,0;", "r3;v3;w044;w700;"};
        for (String text : faulty) {
            NineInThePack x = Bounds.some();
            NineInThePack before = Bounds.some();
            x.pack();
            before.pack();
            Due.tell(x, text);
            bounds.sameBut("a pack of " + text, x, before, 0);
        }
        NineInThePack x = Due.with("s1234,1,-1;w044;r1;v2;s5000,0,0;");
        bounds.calls(x, "count(", new int[] {0, 2, 3, 4, 5}, ")", 2, 1, 2, 4, 3);
        bounds.call(x, "wind(0)", 88);
    }

    private static void lettersAreNoMore() {
        bounds.says("The letters, which are no more then, are a PACK");
        for (String text : new String[] {"", "r1;", "r1", "r0;", NINETEEN + "r10;", NINETEEN + "r10x"}) {
            NineInThePack x = new NineInThePack();
            Due.tell(x, text);
            bounds.is("letters behind " + text, x.count(8), 0);
            bounds.is("an empty pack behind " + text, x.pack(), -1000);
            bounds.is("a letter behind " + text, x.feed('v'), 1);
            Bounds.letters(x, "5;");
            bounds.is("a right pack behind " + text, x.pack(), 1);
            bounds.is("what it brought behind " + text, x.count(3), 5);
        }
    }

    private static void nothingIsCounted() {
        bounds.says("the FAULT (nothing is counted).");
        NineInThePack x = new NineInThePack();
        for (String text : new String[] {"", "x", "r1", "r0;", "s6000,0,0;", "w700;"}) {
            Due.tell(x, text);
        }
        bounds.is("refusals", Due.refusals(x), 0);
    }
}
