/** Promises 33 to 36 and 41: body, act, trace, keep, taken. */
public final class ActsTest {
    private static final int[] XS = {0, 1, 5, -7, 1000, Integer.MAX_VALUE, Integer.MIN_VALUE, 0x40000000};
    private static final int[] ABOVE = {-1, 0, 0, 2, 1, 3, 0, 4};

    public static void main(String[] args) {
        bodies();
        someActs();
        allActs();
        noSuchActs();
        traces();
        keeps();
        takens();
        Due.end();
    }

    private static void bodies() {
        WithOneHand x = new WithOneHand();
        Due.is("kind -1", x.body(-1), Due.BAD);
        Due.is("kind 8", x.body(8), Due.BAD);
        for (int i = 0; i < 50; i++) Due.is("body", x.body(i % 8), i);
        Due.is("a body too many", x.body(0), Due.FULL);
        Due.is("a bad body too many", x.body(8), Due.BAD);
        Due.is("bodies", x.count(5), 50);
    }

    /** Told by hand from the document. */
    private static void someActs() {
        WithOneHand x = new WithOneHand();
        for (int kind = 0; kind < 8; kind++) x.body(kind);
        Due.is("hole 0 holds 5", x.act(0, 0, 5), 5);
        Due.is("bar 1 holds 5", x.act(1, 0, 5), 9);
        Due.is("bar 1 gives 5", x.act(1, 1, 5), 18);
        Due.is("chain 2 gives 5", x.act(2, 1, 5), -14);
        Due.is("stiff 3 gives 5", x.act(3, 1, 5), -18);
        Due.is("stiff 3 drops 5", x.act(3, 2, 5), 18);
        Due.is("cuff 4 drops 5", x.act(4, 2, 5), 1 - 9);
        // gives(5) = -2 * (6 + 5) = -22; drops(1) = 3 * (1 ^ 5) = 12.
        Due.is("wrist 5 tells 5", x.act(5, 3, 5), -34 ^ 5);
        Due.is("drop 6 holds 5", x.act(6, 0, 5), 22);
        Due.is("drop 6 tells 5", x.act(6, 3, 5), 44 - 7);
        // holds(2) = 12; drops(2) = (2 ^ 7) - 12 = -7; gives(5) = 2 * 15 - 7 = 23; drops(1) = 6 - 12 = -6.
        Due.is("maid 7 gives 5", x.act(7, 1, 5), 23);
        Due.is("maid 7 tells 5", x.act(7, 3, 5), 23 + 6 - 1);
    }

    private static void allActs() {
        for (int i = 0; i < 50; i++) {
            Acts.Hole hole = Acts.of((i * 5 + 3) % 8, i);
            for (int act = 0; act < 4; act++) {
                WithOneHand x = new WithOneHand();
                for (int body = 0; body < 50; body++) x.body((body * 5 + 3) % 8);
                for (int v : XS) isActed(x, i, act, v, hole);
            }
        }
    }

    private static void isActed(WithOneHand x, int body, int act, int v, Acts.Hole hole) {
        String call = "act(" + body + ", " + act + ", " + v + ")";
        int due = hole.acts(act, v);
        Due.is(call, x.act(body, act, v), due);
        Due.is("ran in " + call, x.count(6), hole.trace.size());
        for (int i = 0; i < hole.trace.size(); i++) Due.is("trace of " + call, x.trace(i), hole.trace.get(i));
        Due.is("trace behind " + call, x.trace(hole.trace.size()), Due.BAD);
    }

    private static void noSuchActs() {
        WithOneHand x = new WithOneHand();
        x.body(7);
        int[][] none = {{-1, 0}, {1, 0}, {50, 0}, {0, -1}, {0, 4}, {Integer.MIN_VALUE, 0}, {0, Integer.MAX_VALUE}};
        for (int[] n : none) {
            // gives(9) = 2 * 12 + (2 - 5); drops(1) = 1 - 5.
            Due.is("an act ahead", x.act(0, 3, 9), 21 + 4 - 1);
            Due.is("no such act", x.act(n[0], n[1], 5), 0);
            Due.is("none ran", x.count(6), 0);
            Due.is("no trace", x.trace(0), Due.BAD);
        }
    }

    private static void traces() {
        WithOneHand x = new WithOneHand();
        x.body(7);
        x.body(0);
        x.act(0, 3, 1);
        int[] due = {81, 2, 80, 10, 20, 1, 50, 11, 20, 1, 50, 11, 20, 1};
        for (int i = 0; i < due.length; i++) Due.is("trace(" + i + ")", x.trace(i), due[i]);
        Due.is("all that ran", x.count(6), due.length);
        for (int i : new int[] {-1, 14, 23, 24, Integer.MIN_VALUE, Integer.MAX_VALUE}) {
            Due.is("trace(" + i + ")", x.trace(i), Due.BAD);
        }
        x.act(1, 0, 1);
        Due.is("the latest act", x.trace(0), 1);
        Due.is("and no other", x.trace(1), Due.BAD);
        Due.is("one ran", x.count(6), 1);
    }

    private static void keeps() {
        WithOneHand x = new WithOneHand();
        Due.is("no such hole", x.keep(0, 0), Due.BAD);
        x.body(3);
        x.body(5);
        Due.is("hole 1", x.keep(0, 1), 1);
        Due.is("its kind", x.taken(0, 0), 5);
        Due.is("hole 0", x.keep(0, 0), 1);
        Due.is("its kind", x.taken(0, 0), 3);
        Due.is("body 2", x.keep(0, 2), Due.BAD);
        Due.is("body -2", x.keep(0, -2), Due.BAD);
        Due.is("shelf 6", x.keep(6, 0), Due.BAD);
        Due.is("shelf -1", x.keep(-1, 0), Due.BAD);
        Due.is("shelf 6 with nothing", x.keep(6, -1), Due.BAD);
        Due.is("unchanged", x.taken(0, 0), 3);
        Due.is("nothing", x.keep(0, -1), 1);
        Due.is("nothing is there", x.taken(0, 0), Due.MISSING);
        x.row(0, Due.INTS, 3);
        Due.is("in place of a row", x.keep(0, 0), 1);
        Due.is("the row is gone", x.put(0, 0, 1), Due.OTHER_KIND);
        x.row(0, Due.INTS, 3);
        Due.is("nothing in place of a row", x.keep(0, -1), 1);
        Due.is("the row is gone, too", x.put(0, 0, 1), Due.MISSING);
        Due.is("other shelves", x.put(1, 0, 1), Due.MISSING);
    }

    private static boolean isUnder(int kind, int k) {
        for (int above = kind; above >= 0; above = ABOVE[above]) {
            if (above == k) return true;
        }
        return false;
    }

    private static void takens() {
        WithOneHand x = new WithOneHand();
        Due.is("nothing", x.taken(0, 0), Due.MISSING);
        Due.is("shelf -1", x.taken(-1, 0), Due.BAD);
        Due.is("shelf 6", x.taken(6, 0), Due.BAD);
        Due.is("kind -1", x.taken(0, -1), Due.BAD);
        Due.is("kind 8", x.taken(0, 8), Due.BAD);
        for (int kind = 7; kind >= 0; kind--) x.body(kind);
        for (int kind = 0; kind < 8; kind++) {
            x.keep(2, 7 - kind);
            for (int k = 0; k < 8; k++) {
                Due.is(kind + " taken for " + k, x.taken(2, k), isUnder(kind, k) ? kind : Due.OTHER_KIND);
            }
        }
        for (int sort = Due.BYTES; sort <= Due.BOOLEANS; sort++) {
            x.row(2, sort, 1);
            for (int k = 0; k < 8; k++) Due.is("a row taken", x.taken(2, k), Due.OTHER_KIND);
        }
    }
}
