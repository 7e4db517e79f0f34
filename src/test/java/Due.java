/** Counts the answers that are not as due, and has the calls that many tests make ahead of theirs. */
final class Due {
    static final int BAD = -1, NOT = -2, FULL = -3, STATE = -5;
    static final int MISSING = -11, OTHER_KIND = -12, NO_PLACE = -13, SIZE_BELOW_0 = -14;
    static final long REFUSED = Long.MIN_VALUE;
    static final int BYTES = 0, SHORTS = 1, INTS = 2, LONGS = 3, BOOLEANS = 4;

    /** What the answers to come are about; told with those that are not as due. */
    static String about = "";

    private static int asked, wrong;

    private Due() { }

    static void is(String call, long got, long want) {
        asked++;
        if (got == want) return;
        wrong++;
        System.out.println((about.isEmpty() ? "" : about + ": ") + call + " answered " + got + ", due is " + want);
    }

    static void end() {
        System.out.println(asked + " answers, " + wrong + " not as due");
        if (wrong != 0 || asked == 0) System.exit(1);
    }

    /** Feeds a text and makes it the law: what law() answered. */
    static int tells(WithOneHand x, String text) {
        for (int i = 0; i < text.length(); i++) is("feed of " + text, x.feed(text.charAt(i)), i + 1);
        return x.law();
    }

    /** Lays a row of a sort on a shelf. */
    static void lays(WithOneHand x, int shelf, int sort, long... elements) {
        is("row", x.row(shelf, sort, elements.length), 1);
        for (int i = 0; i < elements.length; i++) is("put", x.put(shelf, i, elements[i]), 1);
    }

    /** The elements of a row, as far as it has them. */
    static void holds(String after, WithOneHand x, int shelf, long... elements) {
        for (int i = 0; i < elements.length; i++) {
            is(after + ": element(" + shelf + ", " + i + ")", x.element(shelf, i), elements[i]);
        }
        is(after + ": behind the last", x.element(shelf, elements.length), REFUSED);
    }

    /** Links of these HARDs that do not give, and as many plain cuffs. */
    static WithOneHand with(int... hards) {
        WithOneHand x = new WithOneHand();
        for (int i = 0; i < hards.length; i++) {
            is("link", x.link(hards[i], 0), i);
            is("cuff", x.cuff(0, 0), i);
        }
        return x;
    }
}
