/** Promises 1 to 7 and 42: a new object, links, cuffs, cuffs from a row, spots, mend(), of(), count(). */
public final class NumbersTest {
    private static final int[] LEAST = {1, 0, 0, 0, 0, 0, 0, 0, 0, 0, 1, 1, 1};
    private static final int[] MOST = {9, 9, 9, 9, 1, 99, 9, 99, 99, 11, 99, 99, 99};

    public static void main(String[] args) {
        newObject();
        constants();
        links();
        plainCuffs();
        cuffsFromRows();
        cuffsThatEnd();
        spots();
        mends();
        tellsWhichIsIn();
        counts();
        Due.end();
    }

    private static void newObject() {
        WithOneHand x = new WithOneHand();
        for (int what = 0; what <= 6; what++) Due.is("count of a new one " + what, x.count(what), 0);
        for (int what = 0; what <= 3; what++) Due.is("led of a new one " + what, x.led(what), 0);
        int[][] hands = {{2, 30, 0}, {8, 30, 0}};
        for (int hand = 0; hand < 2; hand++) {
            for (int i = 0; i < 3; i++) Due.is("hand of a new one", x.of(hand, 6 + i), hands[hand][i]);
        }
        Due.is("drops of a new one", x.of(0, 9), 0);
        Due.is("finds of a new one", x.of(0, 10), 20);
        for (int shelf = 0; shelf < 6; shelf++) Due.is("shelf of a new one", x.put(shelf, 0, 1), Due.MISSING);
        Due.is("back of a new one", x.back(), Due.STATE);
        Due.is("undo of a new one", x.undo(), Due.STATE);
        Due.is("redo of a new one", x.redo(), Due.STATE);
        Due.is("trace of a new one", x.trace(0), Due.BAD);
        WithOneHand y = new WithOneHand();
        x.link(1, 1);
        x.mend(0, 6, 5);
        Due.is("another one's links", y.count(0), 0);
        Due.is("another one's skill", y.of(0, 6), 2);
    }

    private static void constants() {
        Due.is("BAD", WithOneHand.BAD, -1);
        Due.is("NOT", WithOneHand.NOT, -2);
        Due.is("FULL", WithOneHand.FULL, -3);
        Due.is("STATE", WithOneHand.STATE, -5);
        Due.is("VOID", WithOneHand.VOID, -2000000000);
    }

    private static void links() {
        WithOneHand x = new WithOneHand();
        int[][] bad = {{0, 0}, {10, 0}, {1, -1}, {1, 10}, {-1, 5}, {Integer.MIN_VALUE, 0}, {5, Integer.MAX_VALUE}};
        for (int[] b : bad) Due.is("link of " + b[0] + ", " + b[1], x.link(b[0], b[1]), Due.BAD);
        int[][] good = {{1, 0}, {9, 9}, {1, 9}, {9, 0}, {5, 4}, {7, 2}};
        for (int i = 0; i < good.length; i++) Due.is("link", x.link(good[i][0], good[i][1]), i);
        for (int i = 0; i < good.length; i++) {
            Due.is("hard", x.of(i, 0), good[i][0]);
            Due.is("gives", x.of(i, 1), good[i][1]);
        }
        Due.is("a seventh link", x.link(1, 0), Due.FULL);
        Due.is("a seventh link that is bad", x.link(0, 0), Due.BAD);
        Due.is("links", x.count(0), 6);
        Due.is("link 6", x.of(6, 0), Due.BAD);
    }

    private static void plainCuffs() {
        WithOneHand x = new WithOneHand();
        int[][] bad = {{-1, 0}, {10, 0}, {0, -1}, {0, 10}, {Integer.MAX_VALUE, 0}};
        for (int[] b : bad) Due.is("cuff of " + b[0] + ", " + b[1], x.cuff(b[0], b[1]), Due.BAD);
        int[][] good = {{0, 0}, {9, 9}, {0, 9}, {9, 0}, {5, 4}, {7, 2}};
        for (int i = 0; i < good.length; i++) Due.is("cuff", x.cuff(good[i][0], good[i][1]), i);
        for (int i = 0; i < good.length; i++) isCuff(x, i, good[i][0], good[i][1], 0);
        Due.is("a seventh cuff", x.cuff(1, 0), Due.FULL);
        Due.is("a seventh cuff that is bad", x.cuff(10, 0), Due.BAD);
        Due.is("cuffs", x.count(1), 6);
    }

    private static void isCuff(WithOneHand x, int cuff, int starch, int off, int hand) {
        Due.is("starch of " + cuff, x.of(cuff, 2), starch);
        Due.is("off of " + cuff, x.of(cuff, 3), off);
        Due.is("hand of " + cuff, x.of(cuff, 4), hand);
        Due.is("gap of " + cuff, x.of(cuff, 5), 20);
        Due.is("link in " + cuff, x.of(cuff, 13), Due.NOT);
    }

    private static void cuffsFromRows() {
        WithOneHand x = new WithOneHand();
        Due.is("cuffs from nothing", x.cuffs(0, 0, 1), 0);
        Due.is("cuffs from no shelf", x.cuffs(6, 0, 1), Due.BAD);
        Due.is("cuffs from shelf -1", x.cuffs(-1, 0, 1), Due.BAD);
        Due.is("no cuffs", x.cuffs(0, 0, 0), Due.BAD);
        Due.is("seven cuffs", x.cuffs(0, 0, 7), Due.BAD);
        Due.is("cuffs from place -1 of nothing", x.cuffs(0, -1, 1), 0);
        Due.is("bad ahead of a place below 0", x.cuffs(0, -1, 0), Due.BAD);
        for (int sort = Due.SHORTS; sort <= Due.BOOLEANS; sort++) {
            x.row(0, sort, 9);
            Due.is("cuffs from sort " + sort, x.cuffs(0, 0, 1), Due.OTHER_KIND);
            Due.is("cuffs from place -1 of sort " + sort, x.cuffs(0, -1, 1), Due.OTHER_KIND);
        }
        Due.is("bad ahead of another kind", x.cuffs(0, 0, 7), Due.BAD);
        x.body(0);
        x.keep(0, 0);
        Due.is("cuffs from a hole", x.cuffs(0, 0, 1), Due.OTHER_KIND);
        Due.is("none came", x.count(1), 0);
        Due.lays(x, 0, Due.BYTES, 7, 3, 4, 1, 9, 0, 0, 5, 6, 1);
        Due.is("cuffs from place 1", x.cuffs(0, 1, 2), 2);
        Due.is("two came", x.count(1), 2);
        isCuff(x, 0, 3, 4, 1);
        isCuff(x, 1, 9, 0, 0);
        Due.is("cuffs till the end", x.cuffs(0, 7, 6), 1);
        isCuff(x, 2, 5, 6, 1);
        Due.is("hands that come with cuffs are no changes", x.count(4), 0);
    }

    private static void cuffsThatEnd() {
        WithOneHand x = new WithOneHand();
        Due.lays(x, 0, Due.BYTES, 1, 2, 0, 3, 4);
        Due.is("a three that ends", x.cuffs(0, 0, 2), 1);
        Due.is("from the end on", x.cuffs(0, 5, 2), 0);
        Due.is("from behind the end on", x.cuffs(0, 60, 2), 0);
        Due.is("from far behind the end on", x.cuffs(0, Integer.MAX_VALUE, 6), 0);
        for (int below : new int[] {-1, -2, -3, -4, -6, -15, Integer.MIN_VALUE, Integer.MIN_VALUE + 1}) {
            Due.is("from place " + below + " on", x.cuffs(0, below, 6), 0);
        }
        Due.is("one came", x.count(1), 1);
        long[][] notSo = {{10, 0, 0}, {-1, 0, 0}, {0, 10, 0}, {0, -1, 0}, {0, 0, 2}, {0, 0, -1}};
        for (long[] three : notSo) {
            x = new WithOneHand();
            Due.lays(x, 0, Due.BYTES, 9, 9, 1, three[0], three[1], three[2], 1, 1, 1);
            Due.is("one that is not so", x.cuffs(0, 0, 3), 1);
            Due.is("those ahead came", x.count(1), 1);
            isCuff(x, 0, 9, 9, 1);
        }
        x = new WithOneHand();
        x.row(0, Due.BYTES, 60);
        for (int i = 0; i < 4; i++) x.cuff(1, 1);
        Due.is("cuffs that are full", x.cuffs(0, 0, 6), 2);
        Due.is("cuffs that were full", x.cuffs(0, 0, 6), 0);
        Due.is("six cuffs", x.count(1), 6);
        x = new WithOneHand();
        x.row(0, Due.BYTES, 60);
        Due.is("six cuffs at once", x.cuffs(0, 42, 6), 6);
    }

    private static void spots() {
        WithOneHand x = new WithOneHand();
        int[][] bad = {{0, 1}, {100, 1}, {1, 0}, {1, 100}, {-5, 5}};
        for (int[] b : bad) Due.is("spot of " + b[0] + ", " + b[1], x.spot(b[0], b[1]), Due.BAD);
        for (int i = 0; i < 8; i++) Due.is("spot", x.spot(i == 0 ? 1 : 99 - i, i == 0 ? 1 : 92 + i), i);
        Due.is("likely 0", x.of(0, 11), 1);
        Due.is("look 0", x.of(0, 12), 1);
        Due.is("likely 7", x.of(7, 11), 92);
        Due.is("look 7", x.of(7, 12), 99);
        Due.is("a ninth spot", x.spot(1, 1), Due.FULL);
        Due.is("a ninth spot that is bad", x.spot(0, 1), Due.BAD);
        Due.is("spots", x.count(2), 8);
        Due.is("spot 8", x.of(8, 11), Due.BAD);
    }

    /** How many of a full object bear each number of mend(). */
    private static int holders(int what) {
        if (what <= 5) return 6;
        if (what <= 8) return 2;
        return what <= 10 ? 1 : 8;
    }

    private static WithOneHand full() {
        WithOneHand x = Due.with(1, 2, 3, 4, 5, 6);
        for (int i = 0; i < 8; i++) x.spot(50, 50);
        return x;
    }

    private static void mends() {
        for (int what = 0; what <= 12; what++) {
            WithOneHand x = full();
            for (int number = 0; number < holders(what); number++) {
                int was = x.of(number, what);
                Due.is("below the least of " + what, x.mend(number, what, LEAST[what] - 1), Due.BAD);
                Due.is("above the most of " + what, x.mend(number, what, MOST[what] + 1), Due.BAD);
                Due.is("unchanged " + what, x.of(number, what), was);
                Due.is("the least of " + what, x.mend(number, what, LEAST[what]), was);
                Due.is("the most of " + what, x.mend(number, what, MOST[what]), LEAST[what]);
                Due.is("mended " + what, x.of(number, what), MOST[what]);
            }
            Due.is("one too many of " + what, x.mend(holders(what), what, MOST[what]), Due.BAD);
            Due.is("one too many to tell of " + what, x.of(holders(what), what), Due.BAD);
            Due.is("number -1 of " + what, x.mend(-1, what, MOST[what]), Due.BAD);
            Due.is("number -1 to tell of " + what, x.of(-1, what), Due.BAD);
            onlyThatIsMended(x, what);
        }
        WithOneHand x = full();
        for (int what : new int[] {-1, 13, 14, Integer.MIN_VALUE, Integer.MAX_VALUE}) {
            Due.is("mend of what " + what, x.mend(0, what, 1), Due.BAD);
        }
        Due.is("of what -1", x.of(0, -1), Due.BAD);
        Due.is("of what 14", x.of(0, 14), Due.BAD);
        Due.is("no change", x.count(4), 0);
    }

    private static void onlyThatIsMended(WithOneHand x, int mended) {
        WithOneHand plain = full();
        for (int what = 0; what <= 12; what++) {
            if (what == mended) continue;
            for (int number = 0; number < holders(what); number++) {
                Due.is("not mended " + what, x.of(number, what), plain.of(number, what));
            }
        }
    }

    private static void tellsWhichIsIn() {
        WithOneHand x = Due.with(1, 2, 3);
        x.puts(21);
        Due.is("in cuff 0", x.of(0, 13), Due.NOT);
        Due.is("in cuff 1", x.of(1, 13), 2);
        Due.is("in cuff 3", x.of(3, 13), Due.BAD);
        Due.is("in cuff -1", x.of(-1, 13), Due.BAD);
    }

    private static void counts() {
        WithOneHand x = full();
        x.feed('1');
        x.feed('1');
        x.mend(0, 2, 7);
        x.mend(0, 2, 6);
        x.mend(0, 2, 5);
        for (int kind = 0; kind < 5; kind++) x.body(kind);
        x.act(1, 0, 1);
        int[] due = {6, 6, 8, 2, 3, 5, 2};
        for (int what = 0; what <= 6; what++) Due.is("count(" + what + ")", x.count(what), due[what]);
        Due.is("count(7)", x.count(7), Due.BAD);
        Due.is("count(-1)", x.count(-1), Due.BAD);
    }
}
