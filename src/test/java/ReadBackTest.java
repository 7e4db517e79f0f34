/** Promises 21 to 24: judge, which, how, drawn. */
public final class ReadBackTest {
    public static void main(String[] args) {
        judge();
        which();
        starched();
        whichHand();
        refusals();
        drawn();
        drawnOfMany();
        leftOnes();
        drawnRefusals();
        Due.end();
    }

    private static WithOneHand some() {
        WithOneHand x = new WithOneHand();
        x.link(5, 0);
        x.link(7, 2);
        x.link(3, 0);
        x.cuff(4, 2);
        x.cuff(0, 0);
        return x;
    }

    private static void judge() {
        WithOneHand x = some();
        Due.lays(x, 0, Due.SHORTS, 48, 47, 46);
        Due.is("all so", x.judge(0, 0), Due.NOT);
        Due.is("so with the other, too", x.judge(0, 10), Due.NOT);
        Due.is("not so with that", x.judge(0, 20), 0);
        Due.is("not so in that", x.judge(0, 1), 0);
        Due.lays(x, 0, Due.SHORTS, 48, 47, 47);
        Due.is("the last is not so", x.judge(0, 0), 2);
        Due.lays(x, 0, Due.SHORTS, 48, 48, 46);
        Due.is("the second is not so", x.judge(0, 0), 1);
        Due.lays(x, 0, Due.SHORTS);
        Due.is("none told", x.judge(0, 20), Due.NOT);
        x.mend(0, 8, 3);
        Due.lays(x, 0, Due.SHORTS, 45, 44);
        Due.is("from now", x.judge(0, 0), Due.NOT);
        x.mend(0, 4, 1);
        Due.lays(x, 0, Due.SHORTS, 18, 17);
        Due.is("the hand of the cuff", x.judge(0, 0), Due.NOT);
        Due.tells(x, "n+1");
        x.mend(1, 8, 60);
        long[] told = new long[60];
        for (int i = 0; i < 60; i++) told[i] = 61 + i;
        Due.lays(x, 0, Due.SHORTS, told);
        Due.is("done goes on", x.judge(0, 0), Due.NOT);
        Due.is("in thought", x.of(1, 8), 60);
        x.put(0, 0, 65536 + 61);
        Due.is("shorts of what was put", x.judge(0, 0), Due.NOT);
        x.put(0, 59, -1);
        Due.is("the sixtieth", x.judge(0, 0), 59);
    }

    private static void which() {
        WithOneHand x = some();
        Due.lays(x, 3, Due.SHORTS, 48, 47);
        Due.is("two of three", x.which(3, 0), 3);
        Due.is("none in that", x.which(3, 1), 0);
        Due.lays(x, 3, Due.SHORTS, 24);
        Due.is("the third", x.which(3, 1), 4);
        Due.lays(x, 3, Due.SHORTS);
        Due.is("none told: all", x.which(3, 1), 7);
        x = new WithOneHand();
        x.cuff(1, 1);
        x.row(0, Due.SHORTS, 0);
        Due.is("no links", x.which(0, 0), 0);
        x = Due.with(1, 2, 3, 4, 5, 6);
        Due.tells(x, "l%2+n");
        Due.lays(x, 0, Due.SHORTS, 1, 2);
        Due.is("the odd ones", x.which(0, 5), 0b010101);
    }

    private static void starched() {
        WithOneHand x = some();
        Due.lays(x, 0, Due.SHORTS, 44, 43);
        Due.is("none", x.how(0, 0, 0), 0);
        Due.lays(x, 0, Due.SHORTS, 53, 52);
        Due.is("most", x.how(0, 0, 0), 9);
        Due.lays(x, 0, Due.SHORTS, 54, 53);
        Due.is("not by starch", x.how(0, 0, 0), Due.NOT);
        Due.lays(x, 0, Due.SHORTS, 51, 51);
        Due.is("not by one starch", x.how(0, 0, 0), Due.NOT);
        Due.is("starch stays", x.of(0, 2), 4);
        Due.tells(x, "s/3");
        Due.lays(x, 0, Due.SHORTS, 2, 2, 2);
        Due.is("the least", x.how(0, 0, 0), 6);
        Due.lays(x, 0, Due.SHORTS);
        Due.is("none told", x.how(0, 0, 0), 0);
    }

    private static void whichHand() {
        WithOneHand x = some();
        Due.lays(x, 0, Due.SHORTS, 48, 47);
        Due.is("hand 0", x.how(0, 0, 1), 1);
        Due.lays(x, 0, Due.SHORTS, 18, 17);
        Due.is("hand 1", x.how(0, 0, 1), 2);
        Due.lays(x, 0, Due.SHORTS, 19);
        Due.is("none", x.how(0, 0, 1), 0);
        x.mend(0, 4, 1);
        Due.lays(x, 0, Due.SHORTS, 48, 47);
        Due.is("whichever does it", x.how(0, 0, 1), 1);
        x.mend(1, 8, 5);
        Due.lays(x, 0, Due.SHORTS, 13, 12);
        Due.is("done of that hand", x.how(0, 0, 1), 2);
        x.mend(0, 6, 8);
        x.mend(0, 8, 5);
        Due.is("both", x.how(0, 0, 1), 3);
        Due.lays(x, 0, Due.SHORTS);
        Due.is("none told", x.how(0, 20, 1), 3);
        Due.is("hand stays", x.of(0, 4), 1);
    }

    private static void isRefused(WithOneHand x, String of, int shelf, int due) {
        Due.is("judge of " + of, x.judge(shelf, 0), due);
        Due.is("which of " + of, x.which(shelf, 0), due);
        Due.is("starched of " + of, x.how(shelf, 0, 0), due);
        Due.is("which hand of " + of, x.how(shelf, 0, 1), due);
    }

    private static void refusals() {
        WithOneHand x = some();
        isRefused(x, "nothing", 0, Due.MISSING);
        isRefused(x, "shelf -1", -1, Due.BAD);
        isRefused(x, "shelf 6", 6, Due.BAD);
        for (int sort = Due.BYTES; sort <= Due.BOOLEANS; sort++) {
            if (sort == Due.SHORTS) continue;
            x.row(0, sort, 0);
            isRefused(x, "sort " + sort, 0, Due.OTHER_KIND);
        }
        x.body(0);
        x.keep(0, 0);
        isRefused(x, "a hole", 0, Due.OTHER_KIND);
        Due.is("bad ahead of another kind", x.judge(0, 2), Due.BAD);
        Due.is("bad ahead of nothing", x.judge(1, 30), Due.BAD);
        for (int cuff : new int[] {-1, 2, Integer.MAX_VALUE}) Due.is("cuff " + cuff, x.which(1, cuff), Due.BAD);
        Due.is("what -1", x.how(1, 0, -1), Due.BAD);
        Due.is("what 2", x.how(1, 0, 2), Due.BAD);
    }

    /** Seconds and left ones of evenings, told the plain way. */
    private static int[] evenings(int takes, int drops, int finds, int seed, int n) {
        int z = seed;
        int[] all = new int[2];
        for (int evening = 0; evening < n; evening++) {
            int tries = 0;
            boolean again = true;
            while (again && tries < 20) {
                z = z * 1103515245 + 12345;
                tries++;
                all[0] += takes;
                again = Integer.remainderUnsigned(z >>> 8, 12) < drops;
                if (again) all[0] += finds;
            }
            if (again) all[1]++;
        }
        return all;
    }

    private static void drawn() {
        WithOneHand x = some();
        Due.is("never dropped", x.drawn(0, 77, 50, 0), 50 * 48);
        Due.is("none left", x.drawn(0, 77, 50, 1), 0);
        x.mend(0, 9, 3);
        Due.is("twelve evenings", x.drawn(0, 5, 12, 0), 712);
        Due.is("in thought", x.of(0, 8), 0);
    }

    private static void drawnOfMany() {
        int[] seeds = {0, 1, -1, 5, 12345, Integer.MIN_VALUE, Integer.MAX_VALUE, -987654321};
        for (int seed : seeds) {
            for (int drops = 0; drops <= 11; drops++) {
                WithOneHand x = some();
                x.mend(0, 9, drops);
                x.mend(0, 10, 1 + 8 * drops);
                for (int n = 1; n <= 50; n += 7) {
                    int[] due = evenings(40, drops, 1 + 8 * drops, seed, n);
                    Due.is("seconds of " + n, x.drawn(11, seed, n, 0), due[0]);
                    Due.is("left of " + n, x.drawn(11, seed, n, 1), due[1]);
                }
            }
        }
    }

    private static void leftOnes() {
        WithOneHand x = Due.with(1);
        x.mend(0, 9, 11);
        int left = 0;
        for (int seed = 0; seed < 20 && left == 0; seed++) {
            left = x.drawn(0, seed, 1, 1);
            if (left == 1) Due.is("twenty tries and finds", x.drawn(0, seed, 1, 0), 20 * (8 + 20));
        }
        Due.is("one of them is left", left, 1);
    }

    private static void drawnRefusals() {
        WithOneHand x = some();
        Due.is("n 0", x.drawn(0, 1, 0, 0), Due.BAD);
        Due.is("n 51", x.drawn(0, 1, 51, 0), Due.BAD);
        Due.is("n 50", x.drawn(0, 1, 50, 0), 2400);
        Due.is("what -1", x.drawn(0, 1, 1, -1), Due.BAD);
        Due.is("what 2", x.drawn(0, 1, 1, 2), Due.BAD);
    }
}
