import com.sun.management.ThreadMXBean;
import java.lang.management.ManagementFactory;

/** All calls of a run live in one room: what an object needs is made with it, and no call makes more. */
final class RoomTest {
    /** So many that an object stays under its 512 calls. */
    private static final int ROUNDS = 10;
    private static final int OBJECTS = 20;
    private static final Due due = new Due();

    public static void main(String[] args) {
        if (ManagementFactory.getThreadMXBean() instanceof ThreadMXBean threads) {
            round(madeWithShips());
            NineInThePack[] ready = new NineInThePack[OBJECTS];
            for (int i = 0; i < OBJECTS; i++) {
                ready[i] = madeWithShips();
            }
            long before = threads.getCurrentThreadAllocatedBytes();
            for (int i = 0; i < OBJECTS * ROUNDS; i++) {
                round(ready[i % OBJECTS]);
            }
            long made = threads.getCurrentThreadAllocatedBytes() - before;
            due.is("bytes of all rounds, " + made + ", are few", made < 16L * OBJECTS * ROUNDS ? 1 : 0, 1);
            before = threads.getCurrentThreadAllocatedBytes();
            ready[0] = new NineInThePack();
            made = threads.getCurrentThreadAllocatedBytes() - before;
            due.is("bytes of a new object, " + made + ", are few", made < 4096 ? 1 : 0, 1);
        }
        due.is("a new object has no ships", new NineInThePack().count(0), 0);
        due.end();
    }

    private static NineInThePack madeWithShips() {
        return Due.with("s00510,0,0;s1390,3,0;s25999,0,9;s40420,-9,9;s5937,1,1;", "w03-2;w1-41;w24-4;w50-3;");
    }

    /** Every call once; some are refused. */
    private static void round(NineInThePack x) {
        x.image();
        x.feed('s');
        x.feed('3');
        x.pack();
        x.feed('r');
        x.feed('9');
        x.feed(';');
        x.pack();
        x.ship(3, 6);
        x.wind(3);
        x.blow(3, 2, 2);
        x.set(1, 40);
        x.go(3);
        x.far(0, 1);
        x.open(0, 1, 2);
        x.behind(4, 60);
        x.meet(2, 3);
        x.nearest(2, 3, 60, 1);
        x.there(0, 3);
        x.back(0, 3);
        x.news(2);
        x.know(1, 40);
        x.lost();
        x.groups();
        x.hungry(60);
        x.lasts(0);
        x.share(0, 4);
        x.givenUp(60, 0);
        x.home(50, 50, 60, 1);
        x.kinds(2, 3, 30, 5, 5);
        x.row(5);
        x.judge(0);
        x.lots(40, 77, 1);
        x.count(7);
        x.restore();
        x.share(0, 0);
    }
}
