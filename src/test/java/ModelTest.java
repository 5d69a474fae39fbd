import java.util.Random;

/** All promises: runs of calls drawn by lot, on the program and on the model, must answer the same. */
final class ModelTest {
    private static final int RUNS = 3000;
    /** An object is used for 512 calls at most: this leaves room for one long turn and the look at the end. */
    private static final int CALLS = 360;
    private static final int[] EDGES = {-1, 0, 1, 2, 5, 6, 7, 9, 10, 30, 31, 40, 41, 60, 61, 99, 100, 255, 256,
        999, 1000, -4, -5, -999, -1000, -9999, -10000, 9999, 10000, Integer.MIN_VALUE, Integer.MAX_VALUE};
    private static final Due due = new Due();

    private final Random lot;
    private final NineInThePack x = new NineInThePack();
    private final Model m = new Model();
    private final boolean close;
    private final String run;
    private int calls;

    private ModelTest(int seed) {
        run = "run " + seed + ": ";
        lot = new Random(seed);
        close = lot.nextBoolean();
    }

    public static void main(String[] args) {
        for (int run = 0; run < RUNS; run++) {
            ModelTest test = new ModelTest(run);
            while (test.calls < CALLS) {
                test.call();
            }
            test.lookAtAll();
        }
        due.end();
    }

    private void is(String call, long got, long want) {
        calls++;
        due.is(run + call, got, want);
    }

    /** Mostly a number between the two, now and then one that may be outside. */
    private int number(int least, int most) {
        return lot.nextInt(25) == 0 ? EDGES[lot.nextInt(EDGES.length)] : least + lot.nextInt(most - least + 1);
    }

    private int aShip() {
        return lot.nextInt(25) == 0 ? number(-1, 6) : lot.nextInt(Math.max(1, m.count(0)));
    }

    private void call() {
        int a = aShip();
        int b = aShip();
        switch (lot.nextInt(30)) {
            case 0: tell(); break;
            case 1: { int v = number(0, 255); is("feed(" + v + ")", x.feed(v), m.feed(v)); break; }
            case 2: {
                int w = number(0, 7);
                is("ship(" + a + ", " + w + ")", x.ship(a, w), m.ship(a, w));
                break;
            }
            case 3: { int d = number(0, 6); is("wind(" + d + ")", x.wind(d), m.wind(d)); break; }
            case 4: {
                int d = number(0, 6);
                int e = number(-4, 4);
                int n = number(-4, 4);
                is("blow(" + d + ", " + e + ", " + n + ")", x.blow(d, e, n), m.blow(d, e, n));
                break;
            }
            case 5: {
                int w = number(0, 1);
                int v = number(1, w == 0 ? 40 : 99);
                is("set(" + w + ", " + v + ")", x.set(w, v), m.set(w, v));
                break;
            }
            case 6: { int n = number(1, close ? 3 : 60); is("go(" + n + ")", x.go(n), m.go(n)); break; }
            case 7: is("far(" + a + ", " + b + ")", x.far(a, b), m.far(a, b)); break;
            case 8: {
                int w = number(0, 2);
                is("open(" + a + ", " + b + ", " + w + ")", x.open(a, b, w), m.open(a, b, w));
                break;
            }
            case 9: {
                int n = number(0, 60);
                is("behind(" + a + ", " + n + ")", x.behind(a, n), m.behind(a, n));
                break;
            }
            case 10: is("meet(" + a + ", " + b + ")", x.meet(a, b), m.meet(a, b)); break;
            case 11: {
                int n = number(0, 60);
                int w = number(0, 1);
                String call = "nearest(" + a + ", " + b + ", " + n + ", " + w + ")";
                is(call, x.nearest(a, b, n, w), m.nearest(a, b, n, w));
                break;
            }
            case 12: is("there(" + a + ", " + b + ")", x.there(a, b), m.there(a, b)); break;
            case 13: is("back(" + a + ", " + b + ")", x.back(a, b), m.back(a, b)); break;
            default: otherCall(a, b);
        }
    }

    private void otherCall(int a, int b) {
        switch (lot.nextInt(16)) {
            case 0: is("news(" + a + ")", x.news(a), m.news(a)); break;
            case 1: {
                int n = number(0, 40);
                is("know(" + a + ", " + n + ")", x.know(a, n), m.know(a, n));
                break;
            }
            case 2: is("lost()", x.lost(), m.lost()); break;
            case 3: is("groups()", x.groups(), m.groups()); break;
            case 4: { int n = number(0, 60); is("hungry(" + n + ")", x.hungry(n), m.hungry(n)); break; }
            case 5: is("lasts(" + a + ")", x.lasts(a), m.lasts(a)); break;
            case 6: is("share(" + a + ", " + b + ")", x.share(a, b), m.share(a, b)); break;
            case 7: {
                int n = number(0, 60);
                int w = number(0, 1);
                is("givenUp(" + n + ", " + w + ")", x.givenUp(n, w), m.givenUp(n, w));
                break;
            }
            case 8: {
                int e = number(-99, 99);
                int o = number(-99, 99);
                int n = number(0, 60);
                int w = number(0, 2);
                String call = "home(" + e + ", " + o + ", " + n + ", " + w + ")";
                is(call, x.home(e, o, n, w), m.home(e, o, n, w));
                break;
            }
            case 9: findKinds(a); break;
            case 10: { int v = number(-99, 99); is("row(" + v + ")", x.row(v), m.row(v)); break; }
            case 11: tellRow(a); break;
            case 12: {
                int n = number(1, 40);
                int z = lot.nextInt();
                int w = number(0, 1);
                is("lots(" + n + ", " + z + ", " + w + ")", x.lots(n, z, w), m.lots(n, z, w));
                break;
            }
            case 13: is("image()", x.image(), m.image()); break;
            case 14: is("restore()", x.restore(), m.restore()); break;
            default: { int w = number(0, 16); is("count(" + w + ")", x.count(w), m.count(w)); }
        }
    }

    /** At a place where one of the kinds would be, so that the bits are not all 0. */
    private void findKinds(int ship) {
        int figure = number(0, 9);
        int n = lot.nextBoolean() ? number(0, 3) : number(0, 30);
        boolean known = isShip(ship) && n >= 0 && n <= 30;
        int east = known ? place(ship, n, true) : number(-9, 9);
        int north = known ? place(ship, n, false) : number(-9, 9);
        String call = "kinds(" + ship + ", " + figure + ", " + n + ", " + east + ", " + north + ")";
        is(call, x.kinds(ship, figure, n, east, north), m.kinds(ship, figure, n, east, north));
    }

    private boolean isShip(int ship) {
        return ship >= 0 && ship < m.count(0);
    }

    /** Where the model has a ship behind n days. */
    private int place(int ship, int n, boolean isEast) {
        long way = m.behind(ship, n);
        long east = Math.round(way / 100000.0);
        return (int) (isEast ? east : way - 100000 * east) + m.ship(ship, isEast ? 4 : 5) - 1000000;
    }

    /** A row that is true for a while. */
    private void tellRow(int ship) {
        int length = isShip(ship) ? lot.nextInt(13) : 0;
        for (int i = 0; i < length; i++) {
            int v = place(ship, i / 2, i % 2 == 0) + (lot.nextInt(12) == 0 ? 1 : 0);
            is("row(" + v + ")", x.row(v), m.row(v));
        }
        is("judge(" + ship + ")", x.judge(ship), m.judge(ship));
    }

    private void tell() {
        StringBuilder text = new StringBuilder();
        int statements = 1 + lot.nextInt(4);
        for (int i = 0; i < statements; i++) {
            text.append(statement());
        }
        if (lot.nextInt(5) == 0) {
            text.setCharAt(lot.nextInt(text.length()), "swrv-,;0123456789 x".charAt(lot.nextInt(19)));
        }
        if (lot.nextInt(8) == 0) {
            text.deleteCharAt(lot.nextInt(text.length()));
        }
        for (int i = 0; i < text.length(); i++) {
            is("feed", x.feed(text.charAt(i)), m.feed(text.charAt(i)));
        }
        is("pack() of " + text, x.pack(), m.pack());
    }

    private String statement() {
        int width = close ? 25 : 199;
        switch (lot.nextInt(5)) {
            case 0:
            case 1: return "s" + lot.nextInt(lot.nextInt(9) == 0 ? 10 : 6) + lot.nextInt(10) + lot.nextInt(10)
                + (lot.nextBoolean() ? lot.nextInt(1000) : lot.nextInt(40)) + ","
                + (lot.nextInt(width) - width / 2) + "," + (lot.nextInt(width) - width / 2) + ";";
            case 2: return "w" + lot.nextInt(lot.nextInt(9) == 0 ? 10 : 7) + wind() + wind() + ";";
            case 3: return "r" + (lot.nextInt(9) == 0 ? lot.nextInt(100) : 1 + lot.nextInt(40)) + ";";
            default: return "v" + lot.nextInt(100) + ";";
        }
    }

    private int wind() {
        return lot.nextInt(15) == 0 ? lot.nextInt(19) - 9 : lot.nextInt(9) - 4;
    }

    private void lookAtAll() {
        for (int what = 0; what <= 17; what++) {
            is("count(" + what + ")", x.count(what), m.count(what));
        }
        for (int ship = 0; ship < 6; ship++) {
            for (int what = 0; what < 8; what++) {
                is("ship(" + ship + ", " + what + ")", x.ship(ship, what), m.ship(ship, what));
            }
        }
        for (int day = 0; day < 7; day++) {
            is("wind(" + day + ")", x.wind(day), m.wind(day));
        }
    }
}
