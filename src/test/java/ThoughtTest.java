/** Promises 10 to 16: seconds, best, paired, order, dropped, by, practice. */
public final class ThoughtTest {
    public static void main(String[] args) {
        plainSeconds();
        before();
        through();
        better();
        badLinksAndCuffs();
        best();
        paired();
        pairedOfLikeOnes();
        order();
        orderByHands();
        orderOfLikeOnes();
        hardFirst();
        dropped();
        by();
        practice();
        level();
        whichLinkWhichCuff();
        Due.end();
    }

    private static void plainSeconds() {
        WithOneHand x = new WithOneHand();
        x.link(7, 2);
        x.link(2, 9);
        x.cuff(6, 3);
        Due.is("8 * 5 + 6 + 6", x.seconds(0, 0), 52);
        Due.is("8 * 0 + 6 + 6", x.seconds(10, 0), 12);
        x.mend(0, 8, 11);
        Due.is("less 11", x.seconds(10, 0), 1);
        x.mend(0, 8, 12);
        Due.is("1 at least", x.seconds(10, 0), 1);
        Due.is("less 12", x.seconds(0, 0), 40);
        x.mend(0, 4, 1);
        Due.is("2 * 5 + 6 + 6 by the other hand", x.seconds(0, 0), 22);
        x.mend(1, 8, 5);
        Due.is("less 5", x.seconds(0, 0), 17);
        Due.is("what -1", x.seconds(0, -1), Due.BAD);
        Due.is("what 4", x.seconds(0, 4), Due.BAD);
    }

    private static void before() {
        WithOneHand x = new WithOneHand();
        x.link(7, 2);
        x.cuff(6, 3);
        Due.is("half of 22", x.seconds(0, 1), 11);
        x.mend(1, 8, 1);
        Due.is("half of 21, cut", x.seconds(0, 1), 10);
        x.mend(0, 6, 8);
        Due.is("of like ones 0: half of 22", x.seconds(0, 1), 11);
        x.mend(0, 6, 9);
        Due.is("hand 0 of more skill: half of 17", x.seconds(0, 1), 8);
        x.mend(0, 4, 1);
        Due.is("any hand does", x.seconds(0, 1), 8);
        x.mend(0, 8, 16);
        Due.is("half of 1 is 1 at least", x.seconds(0, 1), 1);
        Due.tells(x, "999");
        Due.is("half of the most", x.seconds(0, 1), 499);
        Due.tells(x, "5000");
        Due.is("half of what is held", x.seconds(0, 1), 499);
    }

    private static void through() {
        WithOneHand x = new WithOneHand();
        x.link(5, 0);
        x.link(5, 5);
        x.cuff(0, 0);
        Due.is("30 through 20", x.seconds(0, 2), 0);
        Due.is("30 through 20 and 10", x.seconds(10, 2), 1);
        x.mend(1, 7, 31);
        Due.is("31 through 20 and 10", x.seconds(10, 2), 0);
        x.mend(0, 4, 1);
        Due.is("the other hand is in the cuff", x.seconds(10, 2), 1);
        x.mend(0, 7, 31);
        Due.is("and is too wide", x.seconds(10, 2), 0);
        x.mend(0, 5, 21);
        Due.is("31 through 21 and 10", x.seconds(10, 2), 1);
        Due.is("31 through 21", x.seconds(0, 2), 0);
        x.mend(0, 5, 31);
        Due.is("31 through 31", x.seconds(0, 2), 1);
    }

    private static void better() {
        WithOneHand x = new WithOneHand();
        x.link(5, 0);
        x.cuff(0, 0);
        Due.is("not through", x.seconds(0, 3), 40);
        x.mend(0, 5, 30);
        Due.is("through", x.seconds(0, 3), 5);
        Due.tells(x, "h=8?100;20");
        Due.is("before is longer", x.seconds(0, 1), 50);
        Due.is("the better is now", x.seconds(0, 3), 20);
    }

    private static void badLinksAndCuffs() {
        WithOneHand x = Due.with(1, 2);
        x.link(3, 0);
        Due.lays(x, 0, Due.SHORTS, 1);
        int[] bad = {-1, -10, 2, 12, 30, 19, 9, 100, Integer.MIN_VALUE, Integer.MAX_VALUE};
        for (int lc : bad) {
            String of = " of " + lc;
            Due.is("seconds" + of, x.seconds(lc, 0), Due.BAD);
            Due.is("dropped" + of, x.dropped(lc, 0), Due.REFUSED);
            Due.is("by" + of, x.by(lc, 1, 0), Due.REFUSED);
            Due.is("practice" + of, x.practice(lc, 1, 0), Due.BAD);
            Due.is("judge" + of, x.judge(0, lc), Due.BAD);
            Due.is("how" + of, x.how(0, lc, 0), Due.BAD);
            Due.is("drawn" + of, x.drawn(lc, 1, 1, 0), Due.BAD);
            Due.is("puts" + of, x.puts(lc), Due.BAD);
        }
        Due.is("link 2 in cuff 1", x.seconds(21, 0), 24);
    }

    private static void best() {
        WithOneHand x = new WithOneHand();
        Due.is("no cuff", x.best(0), Due.BAD);
        x.cuff(1, 1);
        Due.is("no links", x.best(0), Due.NOT);
        Due.is("cuff -1", x.best(-1), Due.BAD);
        Due.is("cuff 1", x.best(1), Due.BAD);
        x.link(6, 0);
        x.link(9, 5);
        x.link(4, 0);
        Due.is("of like ones the least", x.best(0), 1);
        x.link(9, 6);
        Due.is("the least", x.best(0), 3);
        x.puts(30);
        Due.is("in thought, in or not", x.best(0), 3);
        Due.tells(x, "999");
        Due.is("all of the most seconds", x.best(0), 0);
    }

    private static void paired() {
        WithOneHand x = new WithOneHand();
        Due.is("none", x.paired(0, -1), 0);
        x.cuff(1, 0);
        x.cuff(2, 0);
        Due.is("no links", x.paired(1, -1), Due.NOT);
        Due.is("none of two", x.paired(0, -1), 0);
        Due.is("cuff 0 of none", x.paired(0, 0), Due.BAD);
        x.link(5, 0);
        Due.is("one link for two", x.paired(2, -1), Due.NOT);
        Due.is("one link for two: cuff 1", x.paired(2, 1), Due.NOT);
        Due.is("bad ahead of not", x.paired(2, 2), Due.BAD);
        Due.is("one", x.paired(1, -1), 41);
        Due.is("n -1", x.paired(-1, -1), Due.BAD);
        Due.is("n 3", x.paired(3, -1), Due.BAD);
        Due.is("cuff -2", x.paired(1, -2), Due.BAD);
        x.link(4, 0);
        x.link(6, 0);
        x.mend(0, 4, 1);
        // cuff 0: 2 l + 1; cuff 1: 8 l + 2: the least together leave the least link to cuff 1.
        Due.is("two of three", x.paired(2, -1), 11 + 34);
        Due.is("cuff 0", x.paired(2, 0), 0);
        Due.is("cuff 1", x.paired(2, 1), 1);
        Due.is("one of three", x.paired(1, 0), 1);
        Due.is("one of three together", x.paired(1, -1), 9);
        x.puts(10);
        Due.is("each as it is now: one more done", x.paired(2, -1), 10 + 34);
        Due.is("in thought", x.of(0, 13), 1);
    }

    private static void pairedOfLikeOnes() {
        WithOneHand x = Due.with(3, 1, 2, 1, 3, 2);
        // All cuffs are alike, so every pairing takes the same.
        Due.is("six alike", x.paired(6, -1), 8 * 12);
        for (int c = 0; c < 6; c++) Due.is("first by links, cuff " + c, x.paired(6, c), c);
        Due.is("three alike", x.paired(3, -1), 8 * 4);
        int[] due = {1, 2, 3};
        for (int c = 0; c < 3; c++) Due.is("first by links, cuff " + c + " of 3", x.paired(3, c), due[c]);
        Due.tells(x, "c*10+(l=c+1)*5+1");
        // Links of HARD c + 1 are the dear ones for cuff c: 1, 3 for 0; 2, 5 for 1; 0, 4 for 2; none behind.
        Due.is("least by a law", x.paired(6, -1), 156);
        int[] chosen = {0, 1, 2, 3, 4, 5};
        for (int c = 0; c < 6; c++) Due.is("first by a law, cuff " + c, x.paired(6, c), chosen[c]);
        x.mend(0, 0, 1);
        // Now link 0 is dear for cuff 0, too, so cuff 0 gets link 2, cuff 1 link 0.
        int[] then = {2, 0, 1, 3, 4, 5};
        for (int c = 0; c < 6; c++) Due.is("first by a law then, cuff " + c, x.paired(6, c), then[c]);
    }

    private static void order() {
        WithOneHand x = new WithOneHand();
        Due.is("none", x.order(-1), 0);
        Due.is("the first of none", x.order(0), Due.NOT);
        Due.is("hard first of none", x.order(-2), 0);
        Due.is("k -3", x.order(-3), Due.BAD);
        x = Due.with(3, 5);
        x.link(9, 0);
        Due.is("two of each: 24 and 40, the second one less", x.order(-1), 63);
        Due.is("the second", x.order(1), 1);
        Due.is("not as many", x.order(2), Due.NOT);
        Due.is("not as many by far", x.order(Integer.MAX_VALUE), Due.NOT);
        Due.is("k the least int", x.order(Integer.MIN_VALUE), Due.BAD);
        Due.is("in thought", x.of(0, 8), 0);
        Due.tells(x, "l=3?20-n*10;100-n");
        // 0 first: 20 + 99; 1 first: 100 + 10.
        Due.is("by a law", x.order(-1), 110);
        Due.is("first by a law", x.order(0), 1);
        Due.is("second by a law", x.order(1), 0);
        x.mend(0, 8, 2);
        // 0 first: 1 + 97; 1 first: 98 + 1.
        Due.is("done goes on from now", x.order(-1), 98);
        Due.is("first from now", x.order(0), 0);
        x.mend(0, 8, 99);
        Due.tells(x, "n");
        Due.is("n is one more each time", x.order(-1), 199);
    }

    private static void orderByHands() {
        WithOneHand x = Due.with(9, 9, 9, 9);
        x.mend(1, 4, 1);
        x.mend(3, 4, 1);
        x.mend(0, 8, 10);
        x.mend(1, 8, 20);
        Due.tells(x, "100*c+n");
        Due.is("each hand goes on by itself", x.order(-1), 600 + 10 + 11 + 20 + 21);
        Due.tells(x, "n=10&c=2?1;n=20&c=3?1;500");
        Due.is("two first of each hand", x.order(-1), 1002);
        int[] due = {2, 0, 3, 1};
        for (int k = 0; k < 4; k++) Due.is("the " + k + "-th", x.order(k), due[k]);
    }

    private static void orderOfLikeOnes() {
        WithOneHand x = Due.with(1, 2, 3, 4, 5, 6);
        Due.tells(x, "10");
        Due.is("six alike", x.order(-1), 60);
        for (int k = 0; k < 6; k++) Due.is("first of like ones " + k, x.order(k), k);
        Due.is("hard first of like ones", x.order(-2), 0);
        Due.tells(x, "(5-c=n)*-9+10");
        Due.is("each at its turn", x.order(-1), 6);
        for (int k = 0; k < 6; k++) Due.is("backward " + k, x.order(k), 5 - k);
        Due.is("a seventh", x.order(6), Due.NOT);
    }

    private static void hardFirst() {
        WithOneHand x = Due.with(2, 4, 3);
        Due.is("all the same by plain seconds", x.order(-2), 0);
        Due.tells(x, "l*10*(n+1)");
        // best: 4 first, then 3, then 2: 40 + 60 + 60 = 160, which is hard first.
        Due.is("hard first is best", x.order(-1), 160);
        Due.is("hard first is no longer", x.order(-2), 0);
        Due.tells(x, "l*(10-n)");
        // 40 + 27 + 16 = 83; best is easy first: 20 + 27 + 32 = 79.
        Due.is("easy first is best", x.order(-1), 79);
        Due.is("hard first is longer", x.order(-2), 4);
        Due.tells(x, "n=0?50;c*10+1");
        // Of like ones the least cuff first: 50 + 11 + 21; best: 2, then 0, 1: 50 + 1 + 11.
        Due.is("best of like ones now", x.order(-1), 62);
        Due.is("hard first of like ones", x.order(-2), 20);
        x.mend(1, 4, 1);
        x.mend(2, 4, 1);
        Due.tells(x, "h=2?60;n=0?c*10+20;c*100");
        // now: 60, 30, 40: 0, 2, 1: 60 + 40 + 100; best: 1, 2: 30 + 200, or 2, 1: 40 + 100.
        Due.is("hands apart", x.order(-1), 200);
        Due.is("hard first, hands apart", x.order(-2), 0);
        Due.tells(x, "h=2?60;n=0?c*10+20;c*10-9");
        // best: 1, 2: 30 + 11, or 2, 1: 40 + 1: both 41.
        Due.is("hands apart, alike", x.order(-1), 101);
        Due.is("the first of both", x.order(1), 1);
        Due.is("hard first, alike", x.order(-2), 0);
    }

    private static void isFraction(String of, long above, long below, long dueAbove, long dueBelow) {
        Due.is(of + ", above", above, dueAbove);
        Due.is(of + ", below", below, dueBelow);
    }

    private static void dropped() {
        WithOneHand x = Due.with(5);
        isFraction("no drops", x.dropped(0, 0), x.dropped(0, 1), 40, 1);
        x.mend(0, 9, 5);
        isFraction("(480 + 100) / 7", x.dropped(0, 0), x.dropped(0, 1), 580, 7);
        x.mend(0, 9, 6);
        isFraction("(480 + 120) / 6", x.dropped(0, 0), x.dropped(0, 1), 100, 1);
        x.mend(0, 9, 2);
        x.mend(0, 10, 7);
        isFraction("(480 + 14) / 10", x.dropped(0, 0), x.dropped(0, 1), 247, 5);
        Due.tells(x, "999");
        x.mend(0, 9, 11);
        x.mend(0, 10, 99);
        isFraction("the most", x.dropped(0, 0), x.dropped(0, 1), 12 * 999 + 11 * 99, 1);
        Due.is("part -1", x.dropped(0, -1), Due.REFUSED);
        Due.is("part 2", x.dropped(0, 2), Due.REFUSED);
    }

    private static void by() {
        WithOneHand x = Due.with(5);
        isFraction("just not", x.by(0, 39, 0), x.by(0, 39, 1), 0, 1);
        isFraction("just in", x.by(0, 40, 0), x.by(0, 40, 1), 1, 1);
        x.mend(0, 9, 5);
        isFraction("too early", x.by(0, 39, 0), x.by(0, 39, 1), 0, 1);
        isFraction("one try", x.by(0, 40, 0), x.by(0, 40, 1), 7, 12);
        isFraction("still one", x.by(0, 99, 0), x.by(0, 99, 1), 7, 12);
        isFraction("two", x.by(0, 100, 0), x.by(0, 100, 1), 119, 144);
        isFraction("still five", x.by(0, 339, 0), x.by(0, 339, 1), 248832 - 3125, 248832);
        isFraction("six", x.by(0, 340, 0), x.by(0, 340, 1), 2985984 - 15625, 2985984);
        isFraction("six at most", x.by(0, 9999, 0), x.by(0, 9999, 1), 2985984 - 15625, 2985984);
        x.mend(0, 9, 6);
        isFraction("lowest terms", x.by(0, 160, 0), x.by(0, 160, 1), 7, 8);
        isFraction("at 0", x.by(0, 0, 0), x.by(0, 0, 1), 0, 1);
        Due.is("t -1", x.by(0, -1, 0), Due.REFUSED);
        Due.is("t 10000", x.by(0, 10000, 0), Due.REFUSED);
        Due.is("part 2", x.by(0, 1, 2), Due.REFUSED);
        Due.is("part -1", x.by(0, 1, -1), Due.REFUSED);
    }

    private static void practice() {
        WithOneHand x = Due.with(5);
        Due.is("no more", x.practice(0, 40, 0), 0);
        Due.is("one more", x.practice(0, 39, 0), 1);
        Due.is("down to 1", x.practice(0, 1, 0), 39);
        x.mend(0, 8, 9);
        Due.is("from now", x.practice(0, 1, 0), 30);
        x.mend(0, 4, 1);
        Due.is("by the other hand", x.practice(0, 1, 0), 9);
        Due.tells(x, "100-n");
        Due.is("99 more", x.practice(0, 1, 0), 99);
        Due.tells(x, "101-n");
        Due.is("100 more are too many", x.practice(0, 1, 0), Due.NOT);
        x.mend(1, 8, 50);
        Due.tells(x, "149-n");
        Due.is("99 more from 50", x.practice(0, 1, 0), 98);
        Due.tells(x, "n>60?1;9");
        Due.is("the least", x.practice(0, 8, 0), 11);
        Due.tells(x, "n%7");
        Due.is("the first of several", x.practice(0, 3, 0), 0);
        Due.is("x 0", x.practice(0, 0, 0), Due.BAD);
        Due.is("x 1000", x.practice(0, 1000, 0), Due.BAD);
        Due.is("x 999", x.practice(0, 999, 0), 0);
        Due.is("what -1", x.practice(0, 5, -1), Due.BAD);
        Due.is("what 2", x.practice(0, 5, 2), Due.BAD);
    }

    /** Each call that takes a LINK and a CUFF takes the one by tens, the other by ones. */
    private static void whichLinkWhichCuff() {
        for (int link = 0; link < 6; link++) {
            WithOneHand x = Due.with(1, 2, 3, 4, 5, 6);
            Due.tells(x, "l*10+c-n");
            x.mend(0, 9, 6);
            x.mend(0, 10, 2);
            for (int cuff = 0; cuff < 6; cuff++) {
                int lc = 10 * link + cuff, due = 10 * (link + 1) + cuff;
                Due.is("seconds", x.seconds(lc, 0), due);
                isFraction("dropped", x.dropped(lc, 0), x.dropped(lc, 1), 2 * due + 2, 1);
                Due.is("by, just not", x.by(lc, due - 1, 0), 0);
                isFraction("by", x.by(lc, due, 0), x.by(lc, due, 1), 1, 2);
                Due.is("practice", x.practice(lc, due - 5, 0), 5);
                Due.is("level", x.practice(lc, due, 1), 0);
                Due.is("no level", x.practice(lc, due - 1, 1), Due.NOT);
                x.mend(0, 9, 0);
                Due.is("drawn", x.drawn(lc, 1, 1, 0), due);
                x.mend(0, 9, 6);
                Due.lays(x, 0, Due.SHORTS, due, due - 1);
                Due.is("judge", x.judge(0, lc), Due.NOT);
                Due.is("judge of another", x.judge(0, (lc + 10) % 60), 0);
                Due.is("starched", x.how(0, lc, 0), 0);
                Due.is("starched of another", x.how(0, (lc + 10) % 60, 0), Due.NOT);
                Due.is("which hand", x.how(0, lc, 1), 3);
                Due.is("which hand of another", x.how(0, (lc + 10) % 60, 1), 0);
                Due.is("which link", x.which(0, cuff), 1 << link);
            }
        }
    }

    private static void level() {
        WithOneHand x = Due.with(5);
        Due.is("skill 0", x.practice(0, 50, 1), 0);
        Due.is("skill 1", x.practice(0, 49, 1), 1);
        Due.is("skill 9", x.practice(0, 5, 1), 9);
        Due.is("none", x.practice(0, 4, 1), Due.NOT);
        x.mend(0, 8, 1);
        Due.is("done as it is", x.practice(0, 4, 1), 9);
        x.mend(0, 4, 1);
        Due.is("done of the hand", x.practice(0, 4, 1), Due.NOT);
        Due.is("skill stays", x.of(1, 6), 8);
    }
}
