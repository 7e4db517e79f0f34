/** Boundary cases of promises 21 to 24: judge, which, how, drawn. */
final class ToldEdges extends Edge {
    private ToldEdges() { }

    static void all() {
        noRowOfShorts();
        bitsOfNoRow();
        howOfNoRow();
        theFirstThatIsNotSo();
        doneGoesOn();
        noneTold();
        whichLinks();
        leastStarch();
        whichHands();
        whatOfHow();
        eveningsOfDrawn();
        neverDropped();
        anInt();
        belowDrops();
        twentyTries();
        whatOfDrawn();
    }

    private static final int[] NO_SHELVES = {-1, 6, MIN, MAX};

    private static WithOneHand some() {
        WithOneHand x = Due.with(5, 6, 5);
        x.body(0);
        return x;
    }

    private static void noRowOfShorts() {
        says(21, "JUDGED. BAD, -11, -12 (no ROW of shorts); NOT.");
        WithOneHand x = some();
        for (int shelf : NO_SHELVES) is("judge(" + shelf + ", 0)", x.judge(shelf, 0), BAD);
        for (int lc : new int[] {-1, 3, 9, 30, MIN, MAX}) is("judge(0, " + lc + ")", x.judge(0, lc), BAD);
        is("nothing", x.judge(0, 0), MISSING);
        x.keep(0, 0);
        is("a HOLE", x.judge(0, 0), OTHER_KIND);
        is("BAD is named first", x.judge(0, 3), BAD);
        for (int sort : new int[] {BYTES, INTS, LONGS, BOOLEANS}) {
            x.row(0, sort, 0);
            is("a ROW of sort " + sort, x.judge(0, 0), OTHER_KIND);
        }
        x.row(0, SHORTS, 0);
        is("a ROW of shorts", x.judge(0, 0), NOT);
    }

    private static void bitsOfNoRow() {
        says(22, "WHICH LINK: bits. BAD, -11, -12.");
        WithOneHand x = some();
        for (int shelf : NO_SHELVES) is("which(" + shelf + ", 0)", x.which(shelf, 0), BAD);
        for (int cuff : new int[] {-1, 3, 6, MIN, MAX}) is("which(0, " + cuff + ")", x.which(0, cuff), BAD);
        is("nothing", x.which(0, 0), MISSING);
        x.keep(0, 0);
        is("a HOLE", x.which(0, 0), OTHER_KIND);
        is("BAD is named first", x.which(0, 3), BAD);
        for (int sort : new int[] {BYTES, INTS, LONGS, BOOLEANS}) {
            x.row(0, sort, 0);
            is("a ROW of sort " + sort, x.which(0, 0), OTHER_KIND);
        }
        x.row(0, SHORTS, 0);
        is("a ROW of shorts", x.which(0, 0), 7);
    }

    private static void howOfNoRow() {
        says(23, "WHICH HAND (1: bits). BAD, -11, -12.");
        WithOneHand x = some();
        for (int what = 0; what <= 1; what++) {
            for (int shelf : NO_SHELVES) is("how(" + shelf + ", 0, " + what + ")", x.how(shelf, 0, what), BAD);
            for (int lc : new int[] {-1, 3, 9, 30, MIN, MAX}) is("how of " + lc, x.how(0, lc, what), BAD);
            x.keep(0, -1);
            is("nothing", x.how(0, 0, what), MISSING);
            x.keep(0, 0);
            is("a HOLE", x.how(0, 0, what), OTHER_KIND);
            is("BAD is named first", x.how(0, 3, what), BAD);
            for (int sort : new int[] {BYTES, INTS, LONGS, BOOLEANS}) {
                x.row(0, sort, 0);
                is("a ROW of sort " + sort, x.how(0, 0, what), OTHER_KIND);
            }
            x.row(0, SHORTS, 0);
            is("a ROW of shorts", x.how(0, 0, what), what == 0 ? 0 : 3);
        }
    }

    private static void theFirstThatIsNotSo() {
        says(21, "JUDGED with a LINK: the first that is not so; NOT.");
        WithOneHand x = Due.with(1);
        is("law()", Due.tells(x, "100+n"), 1);
        long[] sixty = new long[60];
        for (int i = 0; i < 60; i++) sixty[i] = 100 + i;
        Due.lays(x, 0, SHORTS, sixty);
        is("all are so", x.judge(0, 0), NOT);
        for (int i : new int[] {59, 30, 1, 0}) {
            x.put(0, i, 99);
            is("of " + i + " and behind", x.judge(0, 0), i);
        }
        Due.lays(x, 0, SHORTS, 100, 65536 + 101, -1);
        is("shorts of what was put", x.judge(0, 0), 2);
    }

    private static void doneGoesOn() {
        says(21, "TOLD: a ROW of shorts: SECONDS of a CUFF with one LINK again and again, DONE going on from now");
        WithOneHand x = Due.with(2);
        Due.lays(x, 0, SHORTS, 16, 15, 14);
        is("from 0", x.judge(0, 0), NOT);
        x.mend(0, 8, 14);
        is("from 14", x.judge(0, 0), 0);
        Due.lays(x, 0, SHORTS, 2, 1, 1, 1);
        is("1 at least", x.judge(0, 0), NOT);
        is("DONE stays", x.of(0, 8), 14);
    }

    private static void noneTold() {
        says(21, "the first that is not so; NOT. WHICH LINK");
        WithOneHand x = Due.with(2);
        x.row(0, SHORTS, 0);
        is("judge of none", x.judge(0, 0), NOT);
        is("which of none", x.which(0, 0), 1);
        is("how starched of none", x.how(0, 0, 0), 0);
        is("which hand of none", x.how(0, 0, 1), 3);
    }

    private static void whichLinks() {
        says(22, "WHICH LINK: LINKS (bits) that make it so.");
        WithOneHand x = new WithOneHand();
        x.cuff(0, 0);
        x.row(0, SHORTS, 0);
        is("no links", x.which(0, 0), 0);
        for (int i = 0; i < 6; i++) x.link(i % 2 + 1, 0);
        is("none told: all six", x.which(0, 0), 63);
        Due.lays(x, 0, SHORTS, 8, 7);
        is("0, 2, 4", x.which(0, 0), 21);
        Due.lays(x, 0, SHORTS, 16, 15);
        is("1, 3, 5", x.which(0, 0), 42);
        x.mend(5, 0, 9);
        Due.lays(x, 0, SHORTS, 72);
        is("5", x.which(0, 0), 32);
        Due.lays(x, 0, SHORTS, 72, 72);
        is("none", x.which(0, 0), 0);
    }

    private static void leastStarch() {
        says(23, "STARCHED: the least STARCH by which it is so with a LINK; NOT.");
        WithOneHand x = Due.with(1);
        int[] told = {7, 8, 9, 16, 17, 18}, due = {NOT, 0, 1, 8, 9, NOT};
        for (int i = 0; i < told.length; i++) {
            Due.lays(x, 0, SHORTS, told[i]);
            is("told " + told[i], x.how(0, 0, 0), due[i]);
        }
        is("law()", Due.tells(x, "s/4+1"), 1);
        int[] least = {0, 4, 8};
        for (int i = 0; i < 3; i++) {
            Due.lays(x, 0, SHORTS, i + 1, i + 1);
            is("the least of several", x.how(0, 0, 0), least[i]);
        }
        is("STARCH stays", x.of(0, 2), 0);
    }

    private static void whichHands() {
        says(23, "WHICH HAND: HANDS (bits; 0, 1) by which it is so with a LINK.");
        WithOneHand x = Due.with(1);
        x.mend(1, 8, 1);
        for (int hand = 0; hand <= 1; hand++) {
            x.mend(0, 4, hand);
            Due.lays(x, 0, SHORTS, 8, 7);
            is("hand 0", x.how(0, 0, 1), 1);
            Due.lays(x, 0, SHORTS, 1, 1);
            is("hand 1", x.how(0, 0, 1), 2);
            Due.lays(x, 0, SHORTS, 2);
            is("none", x.how(0, 0, 1), 0);
            is("HAND stays", x.of(0, 4), hand);
        }
        x.mend(1, 6, 2);
        x.mend(1, 8, 0);
        Due.lays(x, 0, SHORTS, 8, 7);
        is("both", x.how(0, 0, 1), 3);
    }

    private static void whatOfHow() {
        says(23, "STARCHED (what 0; NOT)");
        WithOneHand x = Due.with(1);
        Due.lays(x, 0, SHORTS, 8);
        is("what 0", x.how(0, 0, 0), 0);
        is("what 1", x.how(0, 0, 1), 1);
        for (int what : new int[] {-1, 2, MIN, MAX}) {
            is("what " + what, x.how(0, 0, what), BAD);
            is("BAD is named first", x.how(1, 0, what), BAD);
        }
    }

    private static void eveningsOfDrawn() {
        says(24, "DRAWN: n evenings (1 .. 50) of a LINK in a CUFF by a SEED");
        WithOneHand x = Due.with(1);
        for (int n : new int[] {0, -1, 51, MIN, MAX}) {
            is("seconds of " + n, x.drawn(0, 5, n, 0), BAD);
            is("left of " + n, x.drawn(0, 5, n, 1), BAD);
        }
        is("one", x.drawn(0, 5, 1, 0), 8);
        is("fifty", x.drawn(0, 5, 50, 0), 400);
        for (int lc : new int[] {-1, 1, 9, 10, MIN, MAX}) is("drawn of " + lc, x.drawn(lc, 5, 1, 0), BAD);
    }

    private static void neverDropped() {
        says(24, "it is dropped, if (z >>> 8) % 12 is below DROPS");
        WithOneHand x = Due.with(1);
        x.mend(0, 10, 99);
        for (int seed : SEEDS) {
            is("DROPS 0, seconds", x.drawn(0, seed, 50, 0), 400);
            is("DROPS 0, left", x.drawn(0, seed, 50, 1), 0);
        }
    }

    private static final int[] SEEDS = {0, 1, 2, 5, -1, -2, 12345, 1 << 30, MIN, MIN + 1, MAX, MAX - 1, -1103515245};

    /** What the seed's next number gives by twelve, told in longs that do not wrap. */
    private static long twelfth(long[] z) {
        z[0] = z[0] * 1103515245L + 12345L & 0xffffffffL;
        return (z[0] >> 8) % 12;
    }

    private static void isDrawn(WithOneHand x, int seed, int n, int drops, int finds) {
        long[] z = {seed & 0xffffffffL};
        int seconds = 0, left = 0;
        for (int evening = 0; evening < n; evening++) {
            int dropped = 0;
            while (dropped < 20 && twelfth(z) < drops) dropped++;
            seconds += dropped * (8 + finds) + (dropped < 20 ? 8 : 0);
            if (dropped == 20) left++;
        }
        is("seconds of " + n + " by " + seed + ", " + drops, x.drawn(0, seed, n, 0), seconds);
        is("left of " + n + " by " + seed + ", " + drops, x.drawn(0, seed, n, 1), left);
    }

    private static void anInt() {
        says(24, "z = z * 1103515245 + 12345 (an int; SEED at first) ahead of each try");
        for (int seed : SEEDS) {
            WithOneHand x = Due.with(1);
            x.mend(0, 9, 6);
            for (int n : new int[] {1, 2, 3, 10, 49, 50}) isDrawn(x, seed, n, 6, 20);
        }
    }

    private static void belowDrops() {
        says(24, "is below DROPS (FINDS seconds, then again;");
        for (int seed : SEEDS) {
            WithOneHand x = Due.with(1);
            long first = twelfth(new long[] {seed & 0xffffffffL});
            for (int drops = 0; drops <= 11; drops++) {
                x.mend(0, 9, drops);
                is(first + " by DROPS " + drops, x.drawn(0, seed, 1, 0) == 8 ? 0 : 1, first < drops ? 1 : 0);
                isDrawn(x, seed, 5, drops, 20);
                x.mend(0, 10, 99);
                isDrawn(x, seed, 1, drops, 99);
                x.mend(0, 10, 20);
            }
        }
    }

    /** The first seed by which it is dropped so many times one after the other, with DROPS 11. */
    private static int seedOf(int many) {
        for (int seed = 0; seed < 100000; seed++) {
            long[] z = {seed};
            int dropped = 0;
            while (dropped < 40 && twelfth(z) < 11) dropped++;
            if (dropped == many) return seed;
        }
        throw new IllegalStateException("no seed of " + many);
    }

    private static void twentyTries() {
        says(24, "20 tries at most, then it is left): seconds of all; how many were left.");
        WithOneHand x = Due.with(1);
        x.mend(0, 9, 11);
        int[] dropped = {0, 1, 18, 19, 20, 21, 22};
        int[] seconds = {8, 28 + 8, 18 * 28 + 8, 19 * 28 + 8, 20 * 28, 20 * 28, 20 * 28}, left = {0, 0, 0, 0, 1, 1, 1};
        for (int i = 0; i < dropped.length; i++) {
            int seed = seedOf(dropped[i]);
            is("seconds of " + dropped[i] + " drops", x.drawn(0, seed, 1, 0), seconds[i]);
            is("left of " + dropped[i] + " drops", x.drawn(0, seed, 1, 1), left[i]);
            isDrawn(x, seed, 2, 11, 20);
            isDrawn(x, seed, 50, 11, 20);
        }
    }

    private static void whatOfDrawn() {
        says(24, "DRAWN: seconds (what 0), left ones (1). BAD.");
        WithOneHand x = Due.with(1);
        is("what 0", x.drawn(0, 5, 2, 0), 16);
        is("what 1", x.drawn(0, 5, 2, 1), 0);
        for (int what : new int[] {-1, 2, MIN, MAX}) is("what " + what, x.drawn(0, 5, 2, what), BAD);
    }
}
