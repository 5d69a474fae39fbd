/** What the tests share: answers held against those that are due, and packs told at once. */
final class Due {
    private int wrong;
    private int looked;

    void is(String call, long got, long want) {
        looked++;
        if (got != want) {
            wrong++;
            System.out.println(call + " answered " + got + ", due is " + want);
        }
    }

    /** Ends the test: with 1 if an answer was wrong or none was looked at. */
    void end() {
        System.out.println(looked + " answers looked at, " + wrong + " wrong");
        if (wrong != 0 || looked == 0) {
            System.exit(1);
        }
    }

    static int tell(NineInThePack x, String text) {
        for (int i = 0; i < text.length(); i++) {
            x.feed(text.charAt(i));
        }
        return x.pack();
    }

    static NineInThePack with(String... packs) {
        NineInThePack x = new NineInThePack();
        for (String text : packs) {
            if (tell(x, text) <= 0) {
                throw new IllegalStateException("a test tells a pack with a fault: " + text);
            }
        }
        return x;
    }

    /** How many refusals there were of all kinds. */
    static int refusals(NineInThePack x) {
        int sum = 0;
        for (int what = 11; what <= 16; what++) {
            sum += x.count(what);
        }
        return sum;
    }
}
