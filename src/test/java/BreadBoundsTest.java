/** The boundary cases of promises 20 to 23: hunger to come, how long bread lasts, sharing, giving up a ship. */
final class BreadBoundsTest {
    private static final Bounds bounds = new Bounds();

    public static void main(String[] args) {
        hungryAtTheEnds();
        hungryRefuses();
        lastsAtTheEnds();
        lastsRefuses();
        shareIsDealtByCrews();
        shareLeavesTheRestToTheFirst();
        shareOfOneCrew();
        shareWithoutCrews();
        shareHasAMost();
        shareAtATouch();
        shareRefuses();
        givenUpOfTwo();
        givenUpOfTooFew();
        givenUpHasAMost();
        givenUpToTheNearest();
        givenUpToTheLeastNumber();
        givenUpOfSeveral();
        givenUpOfNoDays();
        givenUpRefuses();
        bounds.end();
    }

    private static void hungryAtTheEnds() {
        bounds.says("HUNGRY: HUNGER of n DAYS (0 .. 60) to come, together.");
        NineInThePack six = Due.with("s0090,0,0;".repeat(6));
        bounds.calls(six, "hungry(", new int[] {0, 1, 59, 60}, ")", 0, 54, 3186, 3240);
        bounds.calls(Due.with("s009540,0,0;"), "hungry(", new int[] {0, 59, 60}, ")", 0, 0, 0);
        bounds.calls(Due.with("s009539,0,0;"), "hungry(", new int[] {0, 59, 60}, ")", 0, 0, 1);
        bounds.calls(Due.with("s000999,0,0;s0000,0,0;"), "hungry(", new int[] {0, 60}, ")", 0, 0);
        bounds.call(new NineInThePack(), "hungry(60)", 0);
        // 0 lacks 3 a day, 1 lacks 5, 2 has 78 for its seven: 11 days and one loaf.
        bounds.unchanged("hungry(0)", 0);
        bounds.unchanged("hungry(11)", 11 * 8);
        bounds.unchanged("hungry(12)", 12 * 8 + 6);
        bounds.unchanged("hungry(60)", 60 * 15 - 78);
    }

    private static void hungryRefuses() {
        bounds.says("HUNGRY. -4; -6 60.");
        bounds.refused("hungry(-1)", -4);
        bounds.refused("hungry(min)", -4);
        bounds.refused("hungry(61)", -6);
        bounds.refused("hungry(max)", -6);
        bounds.refused(NineInThePack::new, "hungry(61)", -6);
    }

    private static void lastsAtTheEnds() {
        bounds.says("LASTS: how many DAYS (0 .. 99; 99 without CREW) the BREAD of a ship lasts.");
        String[] crewAndBread = {"10", "11", "198", "199", "1100", "1999", "90", "98", "99", "917", "918", "9890", "9891", "9899",
            "9999", "00", "01", "0999"};
        int[] days = {0, 1, 98, 99, 99, 99, 0, 0, 1, 1, 2, 98, 99, 99, 99, 99, 99, 99};
        for (int i = 0; i < days.length; i++) {
            String ship = "s00" + crewAndBread[i] + ",0,0;";
            bounds.unchanged(() -> Due.with(ship), "lasts(0)", days[i]);
        }
        bounds.unchanged("lasts(2)", 11);
    }

    private static void lastsRefuses() {
        bounds.says("LASTS. -1.");
        for (String ship : new String[] {"-1", "3", "6", "min", "max"}) {
            bounds.refused("lasts(" + ship + ")", -1);
        }
    }

    /** Two ships of such crews and bread share: what the first has then, and what the other has. */
    private static void shares(String crewAndBread, String others, int dueFirst, int dueOther) {
        NineInThePack x = Due.with("s00" + crewAndBread + ",0,0;s00" + others + ",1,-1;");
        int crews = x.count(5);
        String two = crewAndBread + " with " + others;
        bounds.is("share of " + two, x.share(0, 1), dueFirst);
        bounds.is("the first's bread of " + two, x.ship(0, 3), dueFirst);
        bounds.is("the other's bread of " + two, x.ship(1, 3), dueOther);
        bounds.is("all bread of " + two, x.count(4), dueFirst + dueOther);
        bounds.is("crews of " + two, x.count(5), crews);
    }

    private static void shareIsDealtByCrews() {
        bounds.says("all BREAD of both is dealt by CREWS: each as much as all times its CREW by both CREWS, cut");
        shares("10", "10", 0, 0);
        shares("12", "10", 1, 1);
        shares("10", "910", 1, 9);
        shares("90", "110", 9, 1);
        shares("9999", "9999", 999, 999);
        shares("310", "20", 6, 4);
    }

    private static void shareLeavesTheRestToTheFirst() {
        bounds.says("what is left goes to the first told");
        shares("11", "10", 1, 0);
        shares("10", "11", 1, 0);
        shares("90", "91", 1, 0);
        shares("10", "99", 1, 8);
        shares("99", "10", 9, 0);
        shares("210", "51", 4, 7);
        shares("51", "210", 8, 3);
        NineInThePack x = Due.with("s0011,0,0;s0010,1,-1;");
        bounds.call(x, "share(1, 0)", 1);
        bounds.call(x, "ship(0, 3)", 0);
        bounds.call(x, "share(0, 1)", 1);
        bounds.call(x, "ship(1, 3)", 0);
    }

    private static void shareOfOneCrew() {
        bounds.says("all BREAD of both is dealt by CREWS: each as much as all times its CREW by both CREWS, cut");
        shares("05", "16", 0, 11);
        shares("15", "06", 11, 0);
        shares("0999", "10", 0, 999);
        shares("90", "0999", 999, 0);
    }

    private static void shareWithoutCrews() {
        bounds.says("(both without CREW: half each, what is left to the first)");
        shares("00", "00", 0, 0);
        shares("01", "00", 1, 0);
        shares("00", "01", 1, 0);
        shares("02", "00", 1, 1);
        shares("00", "0999", 500, 499);
        shares("0999", "0998", 999, 998);
        shares("0998", "0999", 999, 998);
        shares("0999", "0999", 999, 999);
    }

    private static void shareHasAMost() {
        bounds.says("no more than 999 each, the rest is lost.");
        shares("1999", "00", 999, 0);
        shares("1999", "01", 999, 0);
        shares("1998", "01", 999, 0);
        shares("00", "1999", 0, 999);
        shares("01", "1999", 0, 999);
        shares("1999", "9999", 200, 999);
        shares("9999", "1999", 999, 199);
        shares("5999", "5998", 999, 998);
        shares("5999", "4999", 999, 888);
        shares("4999", "5999", 888, 999);
        shares("9999", "8999", 999, 940);
    }

    private static void shareAtATouch() {
        bounds.says("To SHARE of two that TOUCH");
        String[] touching = {"0,0", "1,0", "0,1", "-1,-1", "1,-1"};
        for (String place : touching) {
            bounds.call(Due.with("s0014,0,0;s0010," + place + ";"), "share(0, 1)", 2);
        }
        for (String place : new String[] {"2,0", "0,2", "-2,-1", "1,-2", "99,99"}) {
            bounds.refused(() -> Due.with("s0014,0,0;s0010," + place + ";"), "share(0, 1)", -3);
        }
    }

    private static void shareRefuses() {
        bounds.says("To SHARE: BREAD of the first then. -1 two; -3 they do not TOUCH.");
        for (String pair : new String[] {"-1, 0", "0, -1", "3, 0", "0, 3", "0, 0", "2, 2", "min, max", "max, 0"}) {
            bounds.refused("share(" + pair + ")", -1);
        }
        bounds.refused("share(0, 2)", -3);
        bounds.refused("share(2, 0)", -3);
        bounds.refused("share(1, 2)", -3);
    }

    /** Which ship is given up, and the hunger then. */
    private static void givesUp(NineInThePack x, int n, int ship, int hunger) {
        bounds.call(x, "givenUp(" + n + ", 0)", ship);
        bounds.call(x, "givenUp(" + n + ", 1)", hunger);
    }

    private static void givenUpOfTwo() {
        bounds.says("GIVEN UP: the ship by whose loss");
        givesUp(Due.with("s0010,0,0;s00060,99,99;"), 60, 0, 0);
        givesUp(Due.with("s0010,0,0;s00059,99,99;"), 60, 0, 1);
        givesUp(Due.with("s0010,0,0;s00059,99,99;"), 1, 0, 0);
        // Ships 0 and 2 have enough together, whichever of them goes to the other.
        givesUp(Due.with("s001999,0,0;s0010,50,50;s0080,2,2;"), 60, 0, 60);
        bounds.unchanged("givenUp(60, 0)", 2);
        // Ship 2 goes to ship 0, as near as ship 1: crew 3 + 7 is nine at most.
        bounds.unchanged("givenUp(60, 1)", 9 * 60 - 78 + 5 * 60);
    }

    private static void givenUpOfTooFew() {
        bounds.says("HUNGRY then; -9 there are not two.");
        bounds.unchanged(NineInThePack::new, "givenUp(0, 0)", -9);
        bounds.unchanged(NineInThePack::new, "givenUp(60, 1)", -9);
        bounds.unchanged(() -> Due.with("s0010,0,0;"), "givenUp(0, 0)", -9);
        bounds.unchanged(() -> Due.with("s0010,0,0;"), "givenUp(60, 1)", -9);
        bounds.unchanged(() -> Due.with("s0010,0,0;s0010,0,0;"), "givenUp(60, 1)", 120);
    }

    /** As nine men eat 540 in sixty days, that bread is cut at 999 is seen in none of the answers. */
    private static void givenUpHasAMost() {
        bounds.says("9 and 999 at most, the rest is lost");
        givesUp(Due.with("s0040,0,0;s0050,0,0;"), 60, 0, 540);
        givesUp(Due.with("s0050,0,0;s0050,0,0;"), 60, 0, 540);
        givesUp(Due.with("s0090,0,0;s0090,0,0;"), 60, 0, 540);
        givesUp(Due.with("s0040,0,0;s0040,0,0;"), 60, 0, 480);
        givesUp(Due.with("s009999,0,0;s009999,0,0;"), 60, 0, 0);
    }

    /** Ships 3 and 4 take what ships 0 and 1 would leave, so that the loss of ship 2 alone helps. */
    private static NineInThePack between(int one, int other) {
        return Due.with("s0020,-" + one + ",0;s0010," + other + ",0;s00060,0,0;s0000,-" + (one + 1) + ",0;s0000,"
            + (other + 1) + ",0;");
    }

    private static void givenUpToTheNearest() {
        bounds.says("CREW to the nearest other one by FAR");
        givesUp(between(5, 6), 20, 2, 20);
        givesUp(between(6, 5), 20, 2, 40);
        // North counts as east does.
        givesUp(Due.with("s0020,0,9;s0010,8,8;s00060,0,0;s0000,0,10;s0000,9,9;"), 20, 2, 40);
    }

    private static void givenUpToTheLeastNumber() {
        bounds.says("of several the least number");
        givesUp(between(5, 5), 20, 2, 20);
        givesUp(Due.with("s0010,5,0;s0020,-5,0;s00060,0,0;s0000,6,0;s0000,-6,0;"), 20, 2, 40);
    }

    private static void givenUpOfSeveral() {
        bounds.says("HUNGRY of n DAYS is least, of several the least");
        givesUp(Due.with("s0010,0,0;".repeat(6)), 60, 0, 360);
        // Ships 1 and 2 would do the same for one another, ship 0 has none to help.
        givesUp(Due.with("s0010,0,0;s00060,50,0;s0010,55,0;s0000,1,0;"), 60, 1, 60);
        givesUp(Due.with("s0010,0,0;s0000,1,0;s0010,55,0;s00060,50,0;"), 60, 2, 60);
    }

    private static void givenUpOfNoDays() {
        bounds.says("GIVEN UP: the ship (what 0), HUNGRY then (1); -9.");
        givesUp(Due.with("s0010,0,0;s0090,0,0;"), 0, 0, 0);
        givesUp(Due.with("s0010,0,0;s0090,0,0;"), 1, 0, 9);
    }

    private static void givenUpRefuses() {
        bounds.says("GIVEN UP: the ship (what 0), HUNGRY then (1); -9. -4; -6 60; -2.");
        String[] calls = {"givenUp(-1, 0)", "givenUp(min, 1)", "givenUp(-1, 2)", "givenUp(61, 0)", "givenUp(max, 1)",
            "givenUp(61, -1)", "givenUp(60, -1)", "givenUp(0, 2)", "givenUp(60, min)", "givenUp(60, max)"};
        int[] numbers = {-4, -4, -4, -6, -6, -6, -2, -2, -2, -2};
        for (int i = 0; i < calls.length; i++) {
            bounds.refused(calls[i], numbers[i]);
            bounds.refused(NineInThePack::new, calls[i], numbers[i]);
        }
    }
}
