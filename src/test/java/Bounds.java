import java.util.Arrays;
import java.util.function.Supplier;

/**
 * What the tests of boundary cases share: the sentence of the document that is looked at, calls written
 * as text, and that a refused call changes nothing but how many refusals there were.
 */
final class Bounds {
    private static final long LONG_REFUSALS = 4000000000000000000L;

    private final Due due = new Due();
    private String sentence = "";

    /** The document's words by which the next answers are due. */
    void says(String words) {
        sentence = words;
    }

    void is(String what, long got, long want) {
        due.is("\"" + sentence + "\": " + what, got, want);
    }

    void end() {
        due.end();
    }

    /** Makes a call, written name(number, ..) with min and max for the ends of an int, and looks at its answer. */
    void call(NineInThePack x, String call, long want) {
        is(call, answer(x, call), want);
    }

    /** The same call told for each number of a row, with the answer due for each. */
    void calls(NineInThePack x, String before, int[] numbers, String behind, int... want) {
        for (int i = 0; i < numbers.length; i++) {
            call(x, before + numbers[i] + behind, want[i]);
        }
    }

    static long answer(NineInThePack x, String call) {
        int open = call.indexOf('(');
        String told = call.substring(open + 1, call.length() - 1);
        Object[] numbers = told.isEmpty() ? new Object[0] : Arrays.stream(told.split(", ")).map(Bounds::number).toArray();
        Class<?>[] types = new Class<?>[numbers.length];
        Arrays.fill(types, int.class);
        try {
            return ((Number) NineInThePack.class.getMethod(call.substring(0, open), types).invoke(x, numbers)).longValue();
        } catch (ReflectiveOperationException e) {
            throw new IllegalStateException(call, e);
        }
    }

    private static int number(String told) {
        switch (told) {
            case "min": return Integer.MIN_VALUE;
            case "max": return Integer.MAX_VALUE;
            default: return Integer.parseInt(told);
        }
    }

    /** Three ships on day 3, of which the first two touch, with all that can be: hunger, an image, refusals of each kind. */
    static NineInThePack some() {
        NineInThePack x = Due.with("s0034,0,0;s1250,1,1;s40799,-9,20;v33;", "w012;w1-34;w24-1;w3-2-3;w431;w50-4;w6-42;");
        x.go(2);
        x.image();
        x.go(1);
        x.set(0, 12);
        String[] refused = {"far(0, 0)", "set(2, 1)", "set(2, 2)", "share(0, 2)", "go(0)", "go(61)", "go(62)"};
        for (String call : refused) {
            answer(x, call);
        }
        letters(x, "r7;");
        // Ship 0 went by (1, 2), (-3, 4) and (4, -1), and will go by (-2, -3).
        row(x, 2, 5, 0, 2);
        return x;
    }

    static void letters(NineInThePack x, String text) {
        for (int i = 0; i < text.length(); i++) {
            x.feed(text.charAt(i));
        }
    }

    static void row(NineInThePack x, int... numbers) {
        for (int v : numbers) {
            x.row(v);
        }
    }

    /** The object when so many days more have gone by. */
    static NineInThePack on(NineInThePack x, int days) {
        for (int i = 0; i < days / 60; i++) {
            x.go(60);
        }
        if (days % 60 > 0) {
            x.go(days % 60);
        }
        return x;
    }

    void refused(String call, int no) {
        refused(Bounds::some, call, no);
    }

    /** On an object made so the call answers the number, and nothing changes but how many there were. */
    void refused(Supplier<NineInThePack> made, String call, int no) {
        NineInThePack x = made.get();
        NineInThePack before = made.get();
        call(x, call, call.startsWith("behind") ? LONG_REFUSALS - no : no);
        sameBut(call, x, before, no);
    }

    void unchanged(String call, long want) {
        unchanged(Bounds::some, call, want);
    }

    /** On an object made so the call answers what is due, and nothing changes at all. */
    void unchanged(Supplier<NineInThePack> made, String call, long want) {
        NineInThePack x = made.get();
        NineInThePack before = made.get();
        call(x, call, want);
        sameBut(call, x, before, 0);
    }

    /** The two objects are the same but for one more refusal of that number (0 is none). */
    void sameBut(String call, NineInThePack x, NineInThePack before, int no) {
        for (int what = 11; what <= 16; what++) {
            int more = no != 0 && what == 10 - no ? 1 : 0;
            is(call + ", then count(" + what + ")", x.count(what), before.count(what) + more);
        }
        sameToSee(call, x, before);
        // What waits unseen: the row, the letters, the image.
        for (String then : new String[] {"judge(0)", "pack()", "count(2)", "restore()"}) {
            is(call + ", then " + then, answer(x, then), answer(before, then));
        }
        sameToSee(call + ", then restore()", x, before);
    }

    private void sameToSee(String call, NineInThePack x, NineInThePack before) {
        for (int what = 0; what <= 9; what++) {
            is(call + ", then count(" + what + ")", x.count(what), before.count(what));
        }
        for (int ship = 0; ship < before.count(0); ship++) {
            for (int what = 0; what <= 7; what++) {
                is(call + ", then ship(" + ship + ", " + what + ")", x.ship(ship, what), before.ship(ship, what));
            }
        }
        for (int day = 0; day < 7; day++) {
            is(call + ", then wind(" + day + ")", x.wind(day), before.wind(day));
        }
    }
}
