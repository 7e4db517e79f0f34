/** Promises 17 to 20: search, told, asked, two. */
public final class HelpTest {
    public static void main(String[] args) {
        searchOfNone();
        search();
        searchOfLikeOnes();
        searchOfMost();
        told();
        toldRefusals();
        asked();
        askedByLaw();
        waits();
        askedRefusals();
        two();
        twoByLaw();
        twoRefusals();
        Due.end();
    }

    private static void isMean(String of, WithOneHand x, long above, long below) {
        Due.is(of + ", above", x.search(-2), above);
        Due.is(of + ", below", x.search(-1), below);
    }

    private static void searchOfNone() {
        WithOneHand x = new WithOneHand();
        for (int k = -2; k <= 8; k++) Due.is("search(" + k + ") of none", x.search(k), Due.NOT);
        Due.is("search(-3)", x.search(-3), Due.REFUSED);
        Due.is("search of the least int", x.search(Integer.MIN_VALUE), Due.REFUSED);
    }

    private static void search() {
        WithOneHand x = new WithOneHand();
        x.spot(1, 9);
        isMean("one spot", x, 9, 1);
        x.spot(3, 6);
        x.spot(2, 3);
        // 2 (3/2), 1 (2), 0 (9): 2 * 3 + 3 * 9 + 1 * 18 = 51 of 6.
        isMean("three spots", x, 17, 2);
        int[] due = {2, 1, 0};
        for (int k = 0; k < 3; k++) Due.is("spot " + k, x.search(k), due[k]);
        Due.is("not as many", x.search(3), Due.NOT);
        Due.is("not as many by far", x.search(Integer.MAX_VALUE), Due.NOT);
        x.mend(0, 11, 99);
        // 0 (1/11) first: 99 * 9 + 2 * 12 + 3 * 18 = 969 of 104.
        isMean("mended", x, 969, 104);
        Due.is("mended first", x.search(0), 0);
    }

    private static void searchOfLikeOnes() {
        WithOneHand x = new WithOneHand();
        int[][] spots = {{2, 4}, {1, 2}, {50, 99}, {3, 6}, {4, 8}};
        for (int[] s : spots) x.spot(s[0], s[1]);
        int[] due = {2, 0, 1, 3, 4};
        for (int k = 0; k < 5; k++) Due.is("like ones " + k, x.search(k), due[k]);
    }

    private static void searchOfMost() {
        WithOneHand x = new WithOneHand();
        for (int i = 0; i < 8; i++) x.spot(99, 99);
        // 99 * 99 * (1 + .. + 8) of 8 * 99.
        isMean("eight of the most", x, 891, 2);
        for (int k = 0; k < 8; k++) Due.is("eight alike " + k, x.search(k), k);
        Due.is("a ninth", x.search(8), Due.NOT);
    }

    private static void isTold(String of, WithOneHand x, long above, long below) {
        Due.is(of + ", above", x.told(0, 0), above);
        Due.is(of + ", below", x.told(0, 1), below);
    }

    private static void told() {
        WithOneHand x = new WithOneHand();
        int[][] spots = {{5, 10}, {9, 30}, {2, 3}};
        for (int[] s : spots) x.spot(s[0], s[1]);
        Due.lays(x, 0, Due.BYTES, 0, 1, 2);
        // 5 * 10 + 9 * 40 + 2 * 43 = 496 of 16.
        isTold("all", x, 31, 1);
        Due.lays(x, 0, Due.BYTES, 2, 0, 1);
        isTold("as by search", x, 229, 8);
        Due.lays(x, 0, Due.BYTES);
        isTold("none", x, 999, 1);
        Due.lays(x, 0, Due.BYTES, 2);
        // 2 * 3 + 14 * 999 = 13992 of 16.
        isTold("one", x, 1749, 2);
        Due.lays(x, 0, Due.BYTES, 2, 0, 1, 1, 0, 2);
        isTold("each once", x, 229, 8);
        Due.lays(x, 0, Due.BYTES, 2, 2, 0, 1);
        isTold("a spot told again ends the order", x, 1749, 2);
        toldEndsAtNoSpot(x);
        Due.lays(x, 0, Due.BYTES, 4, 3);
        isTold("no such spots", x, 999, 1);
        Due.lays(x, 0, Due.BYTES, 256 + 2, 0, 1);
        isTold("bytes of what was put", x, 229, 8);
        for (int i = 3; i < 8; i++) x.spot(1, 1);
        long[] many = new long[60];
        for (int i = 0; i < 60; i++) many[i] = 7 - i % 8;
        Due.lays(x, 0, Due.BYTES, many);
        // 1 .. 5 for spots 7 .. 3, then 2 at 8, 9 at 38, 5 at 48: 15 + 16 + 342 + 240 = 613 of 21.
        isTold("eight spots", x, 613, 21);
    }

    private static void toldEndsAtNoSpot(WithOneHand x) {
        for (long no : new long[] {3, 8, 127, -1, -128}) {
            Due.lays(x, 0, Due.BYTES, no, 2, 0, 1);
            isTold(no + " first", x, 999, 1);
            Due.lays(x, 0, Due.BYTES, 2, no, 0, 1);
            // As of 2 alone.
            isTold(no + " second", x, 1749, 2);
            Due.lays(x, 0, Due.BYTES, 2, 0, no, 1);
            // 2 * 3 + 5 * 13 + 9 * 999 = 9062 of 16.
            isTold(no + " third", x, 4531, 8);
            Due.lays(x, 0, Due.BYTES, 2, 0, 1, no);
            isTold(no + " last", x, 229, 8);
        }
    }

    private static void toldRefusals() {
        WithOneHand x = new WithOneHand();
        Due.is("nothing there", x.told(0, 0), Due.REFUSED);
        Due.is("shelf -1", x.told(-1, 0), Due.REFUSED);
        Due.is("shelf 6", x.told(6, 0), Due.REFUSED);
        x.row(0, Due.BYTES, 1);
        Due.is("no spots", x.told(0, 0), Due.NOT);
        Due.is("no spots, below", x.told(0, 1), Due.NOT);
        Due.is("part 2 ahead of no spots", x.told(0, 2), Due.REFUSED);
        Due.is("part -1", x.told(0, -1), Due.REFUSED);
        x.spot(1, 1);
        for (int sort = Due.SHORTS; sort <= Due.BOOLEANS; sort++) {
            x.row(1, sort, 1);
            Due.is("sort " + sort, x.told(1, 0), Due.REFUSED);
        }
        x.body(0);
        x.keep(1, 0);
        Due.is("a hole", x.told(1, 0), Due.REFUSED);
    }

    private static void asked() {
        WithOneHand x = Due.with(2, 3, 4);
        // By oneself 16, 24, 32; by a helper of 7: 6, 9, 12.
        Due.is("there at once", x.asked(3, 70000, 0), 27);
        Due.is("at 1", x.asked(3, 70001, 0), 16 + 21);
        Due.is("at 16", x.asked(3, 70016, 0), 16 + 21);
        Due.is("at 17", x.asked(3, 70017, 0), 40 + 12);
        Due.is("at 40", x.asked(3, 70040, 0), 40 + 12);
        Due.is("at 41", x.asked(3, 70041, 0), 72);
        Due.is("too late", x.asked(3, 79999, 0), 72);
        Due.is("two of three", x.asked(2, 70001, 0), 16 + 9);
        Due.is("none of three", x.asked(0, 70001, 0), 0);
        Due.is("a helper of 0", x.asked(3, 17, 0), 40 + 40);
        x.mend(0, 8, 5);
        Due.is("seconds of now, the helper's n 0", x.asked(3, 70001, 0), 11 + 21);
        Due.is("done goes not on", x.asked(3, 79999, 0), 11 + 19 + 27);
        x.mend(1, 4, 1);
        Due.is("the hand of each cuff", x.asked(3, 79999, 0), 11 + 6 + 27);
        Due.is("in thought", x.of(0, 8), 5);
    }

    private static void askedByLaw() {
        WithOneHand x = new WithOneHand();
        x.link(9, 1);
        x.link(8, 1);
        x.cuff(3, 4);
        x.cuff(5, 6);
        x.mend(0, 8, 40);
        Due.tells(x, "h*100+c*10+n");
        Due.is("h, c, n", x.asked(2, 30001, 0), 240 + 310);
        Due.tells(x, "l*100+s*10+o");
        Due.is("l, s, o", x.asked(2, 30000, 0), 834 + 756);
    }

    private static void waits() {
        WithOneHand x = Due.with(2, 3, 4);
        // Begun: 16 + 21 = 37 for a helper of 7 within 16; waited: t + 27.
        Due.is("there at once", x.asked(3, 70000, 1), 0);
        Due.is("at 9 it is earlier", x.asked(3, 70009, 1), 1);
        Due.is("at 10 it is the same", x.asked(3, 70010, 1), 0);
        Due.is("at 11 it is later", x.asked(3, 70011, 1), 0);
        Due.is("at 24, begun 52", x.asked(3, 70024, 1), 1);
        Due.is("at 25, begun 52", x.asked(3, 70025, 1), 0);
        Due.is("none", x.asked(0, 70001, 1), 0);
    }

    private static void askedRefusals() {
        WithOneHand x = Due.with(2, 3);
        x.link(1, 0);
        Due.is("as many as there are of both", x.asked(2, 0, 0), 50);
        Due.is("more than there are of both", x.asked(3, 0, 0), Due.BAD);
        Due.is("n -1", x.asked(-1, 0, 0), Due.BAD);
        Due.is("kt -1", x.asked(1, -1, 0), Due.BAD);
        Due.is("kt 100000", x.asked(1, 100000, 0), Due.BAD);
        Due.is("kt 99999", x.asked(1, 99999, 0), 16);
        Due.is("what -1", x.asked(1, 0, -1), Due.BAD);
        Due.is("what 2", x.asked(1, 0, 2), Due.BAD);
    }

    private static void isTwo(WithOneHand x, int one, int other, int alone, int help) {
        String of = one + ", " + other;
        Due.is("alone of " + of, x.two(one, other, 0), alone);
        Due.is("by help of " + of, x.two(one, other, 1), help);
        Due.is("which of " + of, x.two(one, other, 2), help < alone ? 1 : 0);
    }

    private static void two() {
        WithOneHand x = Due.with(2, 3, 9);
        x.mend(1, 4, 1);
        // Alone: (10 - h0) * 2 + (10 - h1) * 3; helping: (10 - better) * 5.
        isTwo(x, 0, 0, 50, 100);
        isTwo(x, 9, 90, 32, 10);
        isTwo(x, 90, 9, 32, 10);
        isTwo(x, 90, 99, 32, 10);
        isTwo(x, 99, 99, 5, 10);
        isTwo(x, 28, 53, 31, 35);
        isTwo(x, 53, 28, 31, 35);
        isTwo(x, 0, 99, 50, 55);
        isTwo(x, 5, 99, 35, 30);
        x.mend(0, 8, 30);
        x.mend(1, 8, 30);
        isTwo(x, 28, 53, 31, 35);
        x.mend(1, 4, 0);
        isTwo(x, 28, 53, 40, 35);
        x.mend(0, 4, 1);
        isTwo(x, 28, 53, 29, 35);
        Due.is("skills stay", x.of(0, 6), 2);
    }

    private static void twoByLaw() {
        WithOneHand x = Due.with(2, 3);
        x.mend(0, 8, 30);
        Due.tells(x, "n+c*10+h*100");
        isTwo(x, 12, 21, 410, 820);
        Due.tells(x, "50");
        isTwo(x, 12, 21, 100, 200);
        Due.tells(x, "h=0?10;5");
        isTwo(x, 9, 9, 20, 20);
        Due.is("of like ones alone", x.two(9, 9, 2), 0);
    }

    private static void twoRefusals() {
        WithOneHand x = new WithOneHand();
        Due.is("none of each", x.two(0, 0, 0), Due.STATE);
        x.link(1, 0);
        x.link(1, 0);
        Due.is("no cuffs", x.two(0, 0, 0), Due.STATE);
        x.cuff(0, 0);
        Due.is("one cuff", x.two(0, 0, 2), Due.STATE);
        int[][] bad = {{-1, 0, 0}, {100, 0, 0}, {0, -1, 0}, {0, 100, 0}, {0, 0, -1}, {0, 0, 3}};
        for (int[] b : bad) Due.is("bad ahead of state", x.two(b[0], b[1], b[2]), Due.BAD);
        x.cuff(0, 0);
        for (int[] b : bad) Due.is("bad", x.two(b[0], b[1], b[2]), Due.BAD);
        Due.is("two of each", x.two(0, 0, 0), 20);
        x = new WithOneHand();
        x.link(1, 0);
        x.cuff(0, 0);
        x.cuff(0, 0);
        Due.is("one link", x.two(0, 0, 1), Due.STATE);
    }
}
