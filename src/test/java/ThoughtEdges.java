/** Boundary cases of promises 10 to 13: seconds, best, paired, order. */
final class ThoughtEdges extends Edge {
    private ThoughtEdges() { }

    static void all() {
        linkAndCuff();
        linkAndCuffOfEachCall();
        whatOfSeconds();
        beforeByTheHandOfMoreSkill();
        halfTheSeconds();
        theOtherHandGoesThrough();
        throughOrNot();
        theBetterOfBoth();
        bestOfLikeOnes();
        bestOfNoLinks();
        pairedOfN();
        pairedWithoutLinks();
        pairedEachOne();
        pairedOfLikeOnes();
        pairedIsLeast();
        orderOfAsManyAsThereAre();
        orderGoesOn();
        orderOfLikeOnes();
        hardFirstOfLikeOnes();
        kOfOrder();
        orderOfNotAsMany();
        ChanceEdges.all();
    }

    private static void linkAndCuff() {
        says(10, "(lc: 10 times the LINK, and the CUFF;");
        WithOneHand x = Due.with(1, 2, 3, 4, 5, 6);
        is("law()", Due.tells(x, "l*10+c"), 1);
        for (int lc = -20; lc < 100; lc++) {
            boolean isThere = lc >= 0 && lc / 10 < 6 && lc % 10 < 6;
            is("seconds(" + lc + ", 0)", x.seconds(lc, 0), isThere ? 10 * (lc / 10 + 1) + lc % 10 : BAD);
        }
        is("seconds(MIN, 0)", x.seconds(MIN, 0), BAD);
        is("seconds(MAX, 0)", x.seconds(MAX, 0), BAD);
        x = new WithOneHand();
        is("no link, no cuff", x.seconds(0, 0), BAD);
        x.link(1, 0);
        is("no cuff", x.seconds(0, 0), BAD);
        x = new WithOneHand();
        x.cuff(0, 0);
        is("no link", x.seconds(0, 0), BAD);
    }

    private static void linkAndCuffOfEachCall() {
        says(10, "lc: 10 times the LINK, and the CUFF");
        for (int lc = 0; lc < 60; lc++) {
            if (lc % 10 > 5) continue;
            WithOneHand x = Due.with(1, 2, 3, 4, 5, 6);
            is("law()", Due.tells(x, "l*10+c-n"), 1);
            int due = 10 * (lc / 10 + 1) + lc % 10;
            for (int what = 0; what <= 3; what++) {
                int[] seconds = {due, Math.max(1, due / 2), 0, due};
                is("seconds(" + lc + ", " + what + ")", x.seconds(lc, what), seconds[what]);
            }
            is("dropped(" + lc + ", 0)", x.dropped(lc, 0), due);
            is("by(" + lc + ", ..) just not", x.by(lc, due - 1, 0), 0);
            is("by(" + lc + ", ..)", x.by(lc, due, 0), 1);
            is("practice(" + lc + ", .., 0)", x.practice(lc, due - 5, 0), 5);
            is("practice(" + lc + ", .., 1)", x.practice(lc, due - 1, 1), NOT);
            is("practice(" + lc + ", .., 1)", x.practice(lc, due, 1), 0);
            is("drawn(" + lc + ", ..)", x.drawn(lc, 1, 2, 0), 2 * due);
            Due.lays(x, 0, SHORTS, due, due - 1);
            is("judge(0, " + lc + ")", x.judge(0, lc), NOT);
            is("how(0, " + lc + ", 0)", x.how(0, lc, 0), 0);
            is("how(0, " + lc + ", 1)", x.how(0, lc, 1), 3);
            is("which(0, " + lc % 10 + ")", x.which(0, lc % 10), 1 << lc / 10);
            Due.lays(x, 0, SHORTS, due + 1);
            is("judge(0, " + lc + ") of one more", x.judge(0, lc), 0);
            is("how(0, " + lc + ", 0) of one more", x.how(0, lc, 0), NOT);
            is("how(0, " + lc + ", 1) of one more", x.how(0, lc, 1), 0);
            is("puts(" + lc + ")", x.puts(lc), due);
            is("which is in", x.of(lc % 10, 13), lc / 10);
            is("out(" + lc % 10 + ")", x.out(lc % 10), lc / 10);
        }
    }

    private static void whatOfSeconds() {
        says(10, "SECONDS (what 0), BEFORE (1), THROUGH (2), the better (3). BAD.");
        WithOneHand x = Due.with(4);
        x.mend(0, 5, 30);
        int[] due = {32, 4, 1, 4};
        for (int what = 0; what <= 3; what++) is("seconds(0, " + what + ")", x.seconds(0, what), due[what]);
        for (int what : new int[] {-1, 4, MIN, MAX}) is("seconds(0, " + what + ")", x.seconds(0, what), BAD);
    }

    private static void beforeByTheHandOfMoreSkill() {
        says(10, "any HAND does (that of more SKILL; of like ones 0)");
        WithOneHand x = Due.with(9);
        is("law()", Due.tells(x, "h*20+n*2"), 1);
        x.mend(0, 8, 3);
        x.mend(1, 8, 1);
        for (int hand = 0; hand <= 1; hand++) {
            x.mend(0, 4, hand);
            x.mend(0, 6, 7);
            x.mend(1, 6, 8);
            is("hand 1 of 8", x.seconds(0, 1), 81);
            x.mend(0, 6, 8);
            is("both of 8: hand 0", x.seconds(0, 1), 83);
            x.mend(0, 6, 9);
            is("hand 0 of 9", x.seconds(0, 1), 93);
        }
        x.mend(0, 6, 0);
        x.mend(1, 6, 0);
        is("both of 0: hand 0", x.seconds(0, 1), 3);
    }

    private static void halfTheSeconds() {
        says(10, "half the seconds (cut; 1 at least)");
        WithOneHand x = Due.with(1);
        int[] takes = {1, 2, 3, 4, 5, 998, 999, 5000}, due = {1, 1, 1, 2, 2, 499, 499, 499};
        for (int i = 0; i < takes.length; i++) {
            is("law()", Due.tells(x, String.valueOf(takes[i])), 1);
            is("half of " + takes[i], x.seconds(0, 1), due[i]);
        }
    }

    private static void theOtherHandGoesThrough() {
        says(10, "then the HAND that is in the CUFF (the other one than HAND) must go THROUGH");
        WithOneHand x = Due.with(1);
        x.mend(0, 7, 20);
        is("hand 1 of 30 is in it", x.seconds(0, 2), 0);
        x.mend(0, 4, 1);
        is("hand 0 of 20 is in it", x.seconds(0, 2), 1);
        x.mend(0, 7, 21);
        is("hand 0 of 21", x.seconds(0, 2), 0);
        x.mend(1, 7, 0);
        is("hand 1 does it", x.seconds(0, 2), 0);
        x.mend(0, 4, 0);
        is("hand 1 of 0 is in it", x.seconds(0, 2), 1);
    }

    private static void throughOrNot() {
        says(10, "its WIDE is no more than GAP and 2 times GIVES of the LINK.");
        WithOneHand x = Due.with(1);
        int[][] cases = {{20, 0, 20, 1}, {20, 0, 21, 0}, {20, 0, 19, 1}, {20, 5, 30, 1}, {20, 5, 31, 0}, {0, 0, 0, 1},
            {0, 0, 1, 0}, {0, 9, 18, 1}, {0, 9, 19, 0}, {99, 9, 99, 1}, {81, 9, 99, 1}, {80, 9, 99, 0}, {98, 0, 99, 0}};
        for (int[] c : cases) {
            x.mend(0, 5, c[0]);
            x.mend(0, 1, c[1]);
            x.mend(1, 7, c[2]);
            is("GAP " + c[0] + ", GIVES " + c[1] + ", WIDE " + c[2], x.seconds(0, 2), c[3]);
        }
    }

    private static void theBetterOfBoth() {
        says(10, "whether it goes THROUGH (1, 0); the better of both (BEFORE only if it goes THROUGH)");
        WithOneHand x = Due.with(5);
        is("40 now; 5 before, not through", x.seconds(0, 3), 40);
        x.mend(1, 7, 20);
        is("5 before, through", x.seconds(0, 3), 5);
        is("law()", Due.tells(x, "h=8?100;49"), 1);
        is("49 now; 50 before", x.seconds(0, 3), 49);
        is("law()", Due.tells(x, "h=8?100;50"), 1);
        is("50 either way", x.seconds(0, 3), 50);
        is("law()", Due.tells(x, "h=8?100;51"), 1);
        is("51 now; 50 before", x.seconds(0, 3), 50);
        x.mend(1, 7, 21);
        is("51 now; not through", x.seconds(0, 3), 51);
    }

    private static void bestOfLikeOnes() {
        says(11, "BEST LINK for a CUFF: the least SECONDS (of like ones the least LINK); NOT.");
        WithOneHand x = Due.with(3, 2, 2, 3, 1, 1);
        is("the first of two of 1", x.best(0), 4);
        x.mend(4, 0, 2);
        is("the one of 1", x.best(0), 5);
        x.mend(5, 0, 2);
        is("the first of four of 2", x.best(0), 1);
        x.mend(0, 0, 2);
        is("the first of five of 2", x.best(5), 0);
        is("law()", Due.tells(x, "9999"), 1);
        is("all of the most", x.best(0), 0);
        is("law()", Due.tells(x, "0"), 1);
        is("all of 1", x.best(0), 0);
        is("law()", Due.tells(x, "l=3?998;999"), 1);
        is("one of 998", x.best(0), 3);
    }

    private static void bestOfNoLinks() {
        says(11, "BEST LINK. BAD; NOT: no LINKS.");
        WithOneHand x = new WithOneHand();
        is("best(0) of no cuffs", x.best(0), BAD);
        x.cuff(0, 0);
        x.cuff(0, 0);
        is("best(0) of no links", x.best(0), NOT);
        is("best(1) of no links", x.best(1), NOT);
        for (int cuff : new int[] {-1, 2, 6, MIN, MAX}) is("best(" + cuff + ") of no links", x.best(cuff), BAD);
        x.link(9, 0);
        is("best(1) of one link", x.best(1), 0);
        for (int cuff : new int[] {-1, 2, 6, MIN, MAX}) is("best(" + cuff + ")", x.best(cuff), BAD);
    }

    private static void pairedOfN() {
        says(12, "PAIRED of n (0 .. as many CUFFS as there are): that (cuff -1), the LINK of a CUFF (below n). "
            + "BAD; NOT.");
        WithOneHand x = new WithOneHand();
        is("paired(0, -1) of no cuffs", x.paired(0, -1), 0);
        is("paired(0, 0) of no cuffs", x.paired(0, 0), BAD);
        is("paired(1, -1) of no cuffs", x.paired(1, -1), BAD);
        x = Due.with(4, 3, 2, 1);
        int[] due = {0, 8, 24, 48, 80};
        for (int n = 0; n <= 4; n++) {
            is("paired(" + n + ", -1)", x.paired(n, -1), due[n]);
            for (int cuff : new int[] {-2, n, n + 1, MIN, MAX}) {
                is("paired(" + n + ", " + cuff + ")", x.paired(n, cuff), BAD);
            }
            if (n > 0) is("paired(" + n + ", " + (n - 1) + ")", x.paired(n, n - 1) >= 0 ? 1 : 0, 1);
        }
        for (int n : new int[] {-1, 5, 6, MIN, MAX}) {
            is("paired(" + n + ", -1)", x.paired(n, -1), BAD);
            is("paired(" + n + ", 0)", x.paired(n, 0), BAD);
        }
    }

    private static void pairedWithoutLinks() {
        says(12, "NOT: there are not as many LINKS.");
        WithOneHand x = new WithOneHand();
        for (int c = 0; c < 3; c++) x.cuff(0, 0);
        for (int links = 0; links <= 3; links++) {
            for (int n = 0; n <= 3; n++) {
                is(links + " links: paired(" + n + ", -1)", x.paired(n, -1), n > links ? NOT : 8 * n);
                if (n > links) is(links + " links: the last", x.paired(n, n - 1), NOT);
                is(links + " links: BAD is named first", x.paired(n, n), BAD);
            }
            x.link(1, 0);
        }
        is("more links than cuffs", x.paired(3, -1), 24);
        is("n 4", x.paired(4, -1), BAD);
    }

    private static void pairedEachOne() {
        says(12, "PAIRED: each CUFF of 0 .. n less 1 gets one LINK, no two the same, so that all SECONDS (each "
            + "as it is now)");
        WithOneHand x = Due.with(1, 9);
        x.mend(1, 4, 1);
        // Link 0 takes least in both; cuff 0: 8 or 72, cuff 1: 2 or 18.
        is("both", x.paired(2, -1), 26);
        is("cuff 0", x.paired(2, 0), 0);
        is("cuff 1", x.paired(2, 1), 1);
        x.mend(1, 4, 0);
        x.mend(0, 8, 7);
        is("as it is now, for each: 1 and 65", x.paired(2, -1), 66);
        is("law()", Due.tells(x, "n+5"), 1);
        is("n does not go on", x.paired(2, -1), 24);
    }

    private static void pairedOfLikeOnes() {
        says(12, "together are least (of like ones the first by LINKS, CUFF by CUFF): that;");
        WithOneHand x = Due.with(1, 1, 1, 1, 1, 1);
        for (int n = 1; n <= 6; n++) {
            for (int c = 0; c < n; c++) is("all alike, " + n + ": cuff " + c, x.paired(n, c), c);
        }
        x = Due.with(1, 2, 3);
        is("law()", Due.tells(x, "c=0&l=1?9;c=2&l=3?9;1"), 1);
        // Not 0 to cuff 0, nor 2 to cuff 2: 1, 2, 0 is the first of 1, 2, 0 and 2, 0, 1 and 2, 1, 0.
        int[] due = {1, 2, 0};
        is("of three", x.paired(3, -1), 3);
        for (int c = 0; c < 3; c++) is("of three: cuff " + c, x.paired(3, c), due[c]);
        x = Due.with(2, 1, 1);
        is("two of three: cuff 0", x.paired(2, 0), 1);
        is("two of three: cuff 1", x.paired(2, 1), 2);
    }

    private static void pairedIsLeast() {
        says(12, "that; the LINK of a CUFF; NOT");
        WithOneHand x = Due.with(1, 2, 3, 4, 5, 6);
        is("law()", Due.tells(x, "(l+c)%6*100+1"), 1);
        // Link 5 - c is free in cuff c: l + c = 6.
        is("six", x.paired(6, -1), 6);
        for (int c = 0; c < 6; c++) is("six: cuff " + c, x.paired(6, c), 5 - c);
        is("law()", Due.tells(x, "999"), 1);
        is("six of the most", x.paired(6, -1), 5994);
        is("six of the most: cuff 5", x.paired(6, 5), 5);
    }

    private static void orderOfAsManyAsThereAre() {
        says(13, "for the k there are of both (6 at most), one after the other");
        WithOneHand x = Due.with(1, 1);
        is("two of each", x.order(-1), 15);
        for (int i = 0; i < 4; i++) x.link(1, 0);
        is("six links, two cuffs", x.order(-1), 15);
        is("six links, two cuffs: the third", x.order(2), NOT);
        for (int i = 0; i < 4; i++) x.cuff(0, 0);
        is("six of each", x.order(-1), 8 + 7 + 6 + 5 + 4 + 3);
        is("six of each: the sixth", x.order(5), 5);
        x = new WithOneHand();
        for (int i = 0; i < 6; i++) x.cuff(0, 0);
        is("no links, six cuffs", x.order(-1), 0);
        is("no links, six cuffs: hard first", x.order(-2), 0);
        is("no links, six cuffs: the first", x.order(0), NOT);
        x.link(1, 0);
        is("one link, six cuffs", x.order(-1), 8);
        is("one link, six cuffs: the first", x.order(0), 0);
        is("one link, six cuffs: the second", x.order(1), NOT);
    }

    private static void orderGoesOn() {
        says(13, "DONE of the HAND going on (its n one more each time)");
        WithOneHand x = Due.with(1, 1, 1, 1, 1, 1);
        is("law()", Due.tells(x, "n+1"), 1);
        is("by one hand", x.order(-1), 1 + 2 + 3 + 4 + 5 + 6);
        x.mend(5, 4, 1);
        is("the sixth by the other", x.order(-1), 1 + 2 + 3 + 4 + 5 + 1);
        x.mend(1, 8, 50);
        is("which has done it 50 times", x.order(-1), 1 + 2 + 3 + 4 + 5 + 51);
        x.mend(0, 8, 10);
        is("and that 10 times", x.order(-1), 11 + 12 + 13 + 14 + 15 + 51);
        is("DONE stays", x.of(0, 8), 10);
    }

    private static void orderOfLikeOnes() {
        says(13, "in which order all together takes fewest seconds (of like ones the first)");
        WithOneHand x = Due.with(1, 1, 1, 1, 1, 1);
        for (int k = 0; k < 6; k++) is("all alike: " + k, x.order(k), k);
        is("law()", Due.tells(x, "c=0&n<3?9;1"), 1);
        // Cuff 0 as the fourth, fifth or sixth: 1, 2, 3, 0, 4, 5 is the first of them.
        int[] due = {1, 2, 3, 0, 4, 5};
        is("six", x.order(-1), 6);
        for (int k = 0; k < 6; k++) is("cuff 0 late: " + k, x.order(k), due[k]);
    }

    private static void hardFirstOfLikeOnes() {
        says(13, "if that of most SECONDS now goes first, then the next (of like ones the least CUFF), than by "
            + "the best ORDER.");
        WithOneHand x = Due.with(1, 1, 1);
        is("all alike", x.order(-2), 0);
        is("law()", Due.tells(x, "n=0?50;c*10+1"), 1);
        // All take 50 now: 0, 1, 2 is 50 + 11 + 21, and 2, 0, 1 is 50 + 1 + 11.
        is("of like ones the least cuff", x.order(-2), 20);
        is("law()", Due.tells(x, "n=0?50+(c=2);c*10+1"), 1);
        // 2 goes first now: 51 + 1 + 11, which is best.
        is("that of one second more", x.order(-2), 0);
        is("law()", Due.tells(x, "n=0?50+(c=1);c*10+1"), 1);
        // 1 goes first now, then 0, 2: 51 + 1 + 21; best is 2, 0, 1: 50 + 1 + 11.
        is("that in the middle", x.order(-2), 11);
        is("law()", Due.tells(x, "n=0?c*10+10;n=1?c*100+1;1"), 1);
        // 2, 1, 0: 30 + 101 + 1; best is 1, 0, 2: 20 + 1 + 1.
        is("then the next", x.order(-2), 110);
        is("best", x.order(-1), 22);
    }

    private static void kOfOrder() {
        says(13, "that (k -1), the k-th CUFF (-2: HARD FIRST). BAD;");
        WithOneHand x = Due.with(1, 1, 1);
        for (int k : new int[] {-3, -4, MIN}) is("order(" + k + ")", x.order(k), BAD);
        is("order(-2)", x.order(-2), 0);
        is("order(-1)", x.order(-1), 21);
        is("order(0)", x.order(0), 0);
        is("order(2)", x.order(2), 2);
        is("order(-3) of none", new WithOneHand().order(-3), BAD);
    }

    private static void orderOfNotAsMany() {
        says(13, "BAD; NOT: there are not as many.");
        for (int many = 0; many <= 6; many++) {
            int[] hards = new int[many];
            java.util.Arrays.fill(hards, 1);
            WithOneHand x = Due.with(hards);
            if (many > 0) is("the last of " + many, x.order(many - 1), many - 1);
            is("one more than " + many, x.order(many), NOT);
            is("two more than " + many, x.order(many + 1), NOT);
            is("MAX of " + many, x.order(MAX), NOT);
        }
    }
}
