/** Promise 28: days with winds by lot. */
final class LotsTest {
    private static final Due due = new Due();

    public static void main(String[] args) {
        hungerNeedsNoWind();
        pairsByDrawnWinds();
        lateOnesByNoneAtFirst();
        spunOnesByTheDay();
        refused();
        due.end();
    }

    private static void hungerNeedsNoWind() {
        NineInThePack x = Due.with("s00510,0,0;s00320,0,0;");
        due.is("lots(1, 7, 0)", x.lots(1, 7, 0), 0);
        due.is("lots(3, 7, 0)", x.lots(3, 7, 0), 5);
        due.is("lots(40, -7, 0)", x.lots(40, -7, 0), 190 + 100);
        due.is("bread stays", x.count(4), 30);
        due.is("hunger stays", x.count(6), 0);
        due.is("the day stays", x.count(1), 0);
        due.is("the wind stays", x.wind(0), 44);
    }

    /** What a draw is, written out in longs: z modulo 2 to the 32nd. */
    private static long next(long z) {
        return (z * 1103515245L + 12345L) & 0xffffffffL;
    }

    private static int draw(long z) {
        return (int) (((z & 0x7fffffffL) >> 16) % 9) - 4;
    }

    /** A plain ship goes by the winds, a turned one by others: their way apart tells the winds drawn. */
    private static void pairsByDrawnWinds() {
        int[] seeds = {0, 1, -1, 12345, Integer.MIN_VALUE, Integer.MAX_VALUE, 987654321};
        for (int seed : seeds) {
            for (int n = 1; n <= 40; n += 3) {
                long z = seed & 0xffffffffL;
                int east = 0;
                int north = 0;
                for (int i = 0; i < n; i++) {
                    z = next(z);
                    int e = draw(z);
                    z = next(z);
                    int no = draw(z);
                    east += e + no;
                    north += no - e;
                }
                int far = Math.max(Math.abs(east), Math.abs(north));
                NineInThePack x = Due.with("s0000,0,0;s2000,0,0;");
                if (far >= 1 && far <= 99) {
                    x.set(1, far);
                    due.is("seen, lots(" + n + ", " + seed + ", 1)", x.lots(n, seed, 1), 1);
                }
                if (far >= 2 && far <= 100) {
                    x.set(1, far - 1);
                    due.is("unseen, lots(" + n + ", " + seed + ", 1)", x.lots(n, seed, 1), 0);
                }
            }
        }
        NineInThePack y = Due.with("s0000,0,0;s0000,1,0;s0000,2,0;s0000,99,0;");
        due.is("pairs of plain ships", y.lots(40, 5, 1), 3);
    }

    /** The first drawn of z 1 is (1103527590 / 65536) % 9 - 4 = 16838 % 9 - 4 = 4, then 5758 % 9 - 4 = 3. */
    private static void lateOnesByNoneAtFirst() {
        NineInThePack x = Due.with("s0000,0,0;s3000,0,0;", "w644;w011;");
        x.set(1, 4);
        due.is("a late one stays on the first day", x.lots(1, 1, 1), 1);
        x.set(1, 3);
        due.is("four furlongs apart", x.lots(1, 1, 1), 0);
        lateOnesByTheOneAhead();
    }

    /** In three days a late one goes by the first two winds: the third is what it lacks. */
    private static void lateOnesByTheOneAhead() {
        for (int seed = 1; seed <= 20; seed++) {
            long z = seed;
            for (int i = 0; i < 5; i++) {
                z = next(z);
            }
            int far = Math.max(Math.abs(draw(z)), Math.abs(draw(next(z))));
            NineInThePack x = Due.with("s0000,0,0;s3000,0,0;", "w644;w011;");
            x.set(1, Math.max(1, far));
            due.is("seen, lots(3, " + seed + ", 1)", x.lots(3, seed, 1), 1);
            if (far > 1) {
                x.set(1, far - 1);
                due.is("unseen, lots(3, " + seed + ", 1)", x.lots(3, seed, 1), 0);
            }
        }
    }

    /** A spun one of figure 1 goes the other way on days that 3 divides, counted from the DAY that is. */
    private static void spunOnesByTheDay() {
        for (int day = 1; day <= 3; day++) {
            NineInThePack x = Due.with("s2000,0,0;s4100,0,0;");
            x.go(day);
            for (int n = 1; n <= 5; n++) {
                long z = 5;
                int east = 0;
                int north = 0;
                for (int i = 0; i < n; i++) {
                    z = next(z);
                    int e = draw(z);
                    z = next(z);
                    int no = draw(z);
                    boolean isOther = (day + i) % 3 == 0;
                    east += isOther ? 2 * no : 0;
                    north += isOther ? 2 * e : 0;
                }
                int far = Math.max(Math.abs(east), Math.abs(north));
                x.set(1, Math.max(1, far));
                due.is("seen on " + day + ", lots(" + n + ", 5, 1)", x.lots(n, 5, 1), 1);
                if (far > 1) {
                    x.set(1, far - 1);
                    due.is("unseen on " + day + ", lots(" + n + ", 5, 1)", x.lots(n, 5, 1), 0);
                }
            }
        }
    }

    private static void refused() {
        NineInThePack x = new NineInThePack();
        due.is("lots(0, 0, 2)", x.lots(0, 0, 2), -4);
        due.is("lots(-1, 0, 2)", x.lots(-1, 0, 2), -4);
        due.is("lots(41, 0, 2)", x.lots(41, 0, 2), -6);
        due.is("lots(40, 0, 2)", x.lots(40, 0, 2), -2);
        due.is("lots(1, 0, -1)", x.lots(1, 0, -1), -2);
        due.is("lots(40, 0, 1)", x.lots(40, 0, 1), 0);
        due.is("refusals", Due.refusals(x), 5);
    }
}
