import java.util.ArrayList;
import java.util.List;

/** Objects as some calls have left them, and all that later calls can tell of one. */
enum Scene {
    /** A new object. */
    EMPTY,
    /** Two cuffs, and nothing to put into them; a row of bytes on shelf 0. */
    BARE,
    /** Some of everything; changes that may be undone and done again; bytes, shorts, a hole, ints, nothing, longs. */
    SOME,
    /** As much of everything as there may be. */
    FULL;

    /** Each way to look is for an object of its own: together they make more calls than one object is for. */
    static final int LOOKS = 6;

    WithOneHand made() {
        WithOneHand x = new WithOneHand();
        switch (this) {
            case BARE: makeBare(x); break;
            case SOME: makeSome(x); break;
            case FULL: makeFull(x); break;
            default:
        }
        return x;
    }

    private static void makeBare(WithOneHand x) {
        x.cuff(4, 2);
        x.cuff(1, 0);
        x.row(0, Due.BYTES, 3);
    }

    private static void makeSome(WithOneHand x) {
        int[][] links = {{5, 0}, {7, 2}, {3, 1}};
        for (int[] link : links) x.link(link[0], link[1]);
        makeBare(x);
        x.spot(5, 10);
        x.spot(9, 30);
        int[][] changes = {{1, 4, 1}, {0, 9, 3}, {0, 10, 33}, {0, 5, 34}, {1, 7, 40}};
        for (int[] change : changes) x.mend(change[0], change[1], change[2]);
        x.undo();
        x.undo();
        Due.tells(x, "l*3+s+n");
        for (char b : "h+2".toCharArray()) x.feed(b);
        x.puts(10);
        x.image();
        x.out(0);
        x.night();
        x.puts(21);
        for (int kind = 0; kind < 8; kind++) x.body(kind);
        x.act(7, 3, 5);
        Due.lays(x, 0, Due.BYTES, 3, 4, 1, 9, 9, 0, 5);
        Due.lays(x, 1, Due.SHORTS, 20, 21);
        x.keep(2, 5);
        Due.lays(x, 3, Due.INTS, 1, 2, 3);
        Due.lays(x, 5, Due.LONGS, -7, 1L << 40);
    }

    private static void makeFull(WithOneHand x) {
        for (int i = 0; i < 6; i++) {
            x.link(9 - i, i);
            x.cuff(i, 9 - i);
        }
        for (int i = 0; i < 8; i++) x.spot(10 + i, 50 - i);
        for (int i = 0; i < 41; i++) x.mend(i % 6, 5, 30 + i);
        x.feed('1');
        while (x.feed('0') < 119) x.feed('+');
        for (int i = 0; i < 6; i++) x.puts(10 * (5 - i) + i);
        x.image();
        for (int i = 0; i < 50; i++) x.body(i % 8);
        x.act(7, 3, 5);
        for (int shelf = 0; shelf < 6; shelf++) {
            x.row(shelf, shelf % 5, 60);
            x.put(shelf, 59, 1);
        }
    }

    /** What an object tells by one of the ways to look at it; afterwards it is no longer as it was. */
    static List<Long> seen(WithOneHand x, int look) {
        List<Long> seen = new ArrayList<>();
        switch (look) {
            case 0: numbers(x, seen); break;
            case 1: shelves(x, seen, 0); break;
            case 2: shelves(x, seen, 3); break;
            case 3: changes(x, seen); break;
            case 4: imageAndTape(x, seen); break;
            default: bodies(x, seen);
        }
        return seen;
    }

    private static void mended(WithOneHand x, List<Long> seen) {
        int[] holders = {6, 6, 6, 6, 6, 6, 2, 2, 2, 1, 1, 8, 8, 6};
        for (int what = 0; what < 14; what++) {
            for (int number = 0; number < holders[what]; number++) seen.add((long) x.of(number, what));
        }
    }

    private static void numbers(WithOneHand x, List<Long> seen) {
        mended(x, seen);
        for (int what = 0; what < 7; what++) seen.add((long) x.count(what));
        for (int what = 0; what < 4; what++) seen.add((long) x.led(what));
        for (int i = 0; i < 24; i++) seen.add((long) x.trace(i));
        for (int lc = 0; lc < 56; lc++) seen.add((long) x.seconds(lc, 0));
    }

    private static void shelves(WithOneHand x, List<Long> seen, int from) {
        for (int shelf = from; shelf < from + 3; shelf++) {
            seen.add((long) x.put(shelf, 60, 0));
            for (int k = 0; k < 8; k++) seen.add((long) x.taken(shelf, k));
            for (int i = 0; i < 60; i++) seen.add(x.element(shelf, i));
            // What is left of this tells the sort of a row.
            seen.add((long) x.put(shelf, 0, 0x123456789abcdefL));
            seen.add(x.element(shelf, 0));
        }
    }

    private static void changes(WithOneHand x, List<Long> seen) {
        long left;
        do seen.add(left = x.redo()); while (left >= 0);
        mended(x, seen);
        do seen.add(left = x.undo()); while (left >= 0);
        mended(x, seen);
    }

    private static void imageAndTape(WithOneHand x, List<Long> seen) {
        seen.add((long) x.back());
        mended(x, seen);
        for (int what = 0; what < 4; what++) seen.add((long) x.led(what));
        seen.add((long) x.law());
        seen.add((long) x.count(3));
        for (int lc = 0; lc < 56; lc++) seen.add((long) x.seconds(lc, 0));
    }

    private static void bodies(WithOneHand x, List<Long> seen) {
        for (int body = 0; body < 50; body++) {
            for (int act = 0; act < 4; act++) seen.add((long) x.act(body, act, 5));
        }
    }
}
