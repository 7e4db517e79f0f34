/** Boundary cases of promises 14 to 16: dropped, by, practice. */
final class ChanceEdges extends Edge {
    private ChanceEdges() { }

    static void all() {
        partOfAFraction();
        neverDropped();
        mostDropped();
        doneAsItIs();
        tOfBy();
        endsNoLater();
        sixTriesAtMost();
        byInLowestTerms();
        howManyTimesMore();
        noMoreThanX();
        whatOfPractice();
        levels();
        leastSkillOfALink();
    }

    private static void isFraction(String of, long above, long below, long dueAbove, long dueBelow) {
        is(of + ", above the line", above, dueAbove);
        is(of + ", below the line", below, dueBelow);
    }

    private static void partOfAFraction() {
        says(14, "part 0 above, 1 below the line; Long.MIN_VALUE: BAD)");
        WithOneHand x = Due.with(5);
        x.mend(0, 9, 5);
        isFraction("dropped", x.dropped(0, 0), x.dropped(0, 1), 580, 7);
        isFraction("by", x.by(0, 40, 0), x.by(0, 40, 1), 7, 12);
        for (int part : new int[] {-1, 2, MIN, MAX}) {
            is("dropped(0, " + part + ")", x.dropped(0, part), REFUSED);
            is("by(0, 40, " + part + ")", x.by(0, 40, part), REFUSED);
        }
        for (int lc : new int[] {-1, 1, 9, 10, 60, MIN, MAX}) {
            is("dropped(" + lc + ", 0)", x.dropped(lc, 0), REFUSED);
            is("by(" + lc + ", 40, 0)", x.by(lc, 40, 0), REFUSED);
        }
        is("dropped(0, 0) of none", new WithOneHand().dropped(0, 0), REFUSED);
        is("by(0, 0, 0) of none", new WithOneHand().by(0, 0, 0), REFUSED);
    }

    private static void neverDropped() {
        says(14, "DROPPED: in DROPS of twelve tries it is dropped at the end of its SECONDS, FINDS seconds to "
            + "find it, then again");
        WithOneHand x = Due.with(5);
        x.mend(0, 10, 99);
        isFraction("DROPS 0", x.dropped(0, 0), x.dropped(0, 1), 40, 1);
        x.mend(0, 9, 1);
        // (480 + 99) of 11.
        isFraction("DROPS 1", x.dropped(0, 0), x.dropped(0, 1), 579, 11);
        x.mend(0, 10, 1);
        isFraction("FINDS 1", x.dropped(0, 0), x.dropped(0, 1), 481, 11);
    }

    private static void mostDropped() {
        says(14, "SECONDS on the mean (seconds of all tries and finds): a fraction in lowest terms");
        WithOneHand x = Due.with(5);
        x.mend(0, 9, 11);
        isFraction("DROPS 11", x.dropped(0, 0), x.dropped(0, 1), 12 * 40 + 11 * 20, 1);
        x.mend(0, 10, 99);
        is("law()", Due.tells(x, "999"), 1);
        isFraction("the most", x.dropped(0, 0), x.dropped(0, 1), 12 * 999 + 11 * 99, 1);
        is("law()", Due.tells(x, "1"), 1);
        x.mend(0, 10, 1);
        isFraction("the fewest of DROPS 11", x.dropped(0, 0), x.dropped(0, 1), 23, 1);
        long[][] due = {{1, 1}, {13, 11}, {7, 5}, {5, 3}, {2, 1}, {17, 7}, {3, 1}, {19, 5}, {5, 1}, {7, 1}, {11, 1},
            {23, 1}};
        for (int drops = 0; drops <= 11; drops++) {
            x.mend(0, 9, drops);
            isFraction("DROPS " + drops, x.dropped(0, 0), x.dropped(0, 1), due[drops][0], due[drops][1]);
        }
    }

    private static void doneAsItIs() {
        says(14, "(DONE as it is)");
        WithOneHand x = Due.with(5);
        x.mend(0, 9, 6);
        x.mend(0, 8, 10);
        // Each try takes 30: (360 + 120) of 6.
        isFraction("DONE 10", x.dropped(0, 0), x.dropped(0, 1), 80, 1);
        is("two tries of 30, a find of 20", x.by(0, 80, 1), 4);
        is("not yet", x.by(0, 79, 1), 2);
        is("DONE stays", x.of(0, 8), 10);
    }

    private static void tOfBy() {
        says(15, "BY t (0 .. 9999)");
        WithOneHand x = Due.with(5);
        for (int t : new int[] {-1, 10000, MIN, MAX}) is("by(0, " + t + ", 0)", x.by(0, t, 0), REFUSED);
        isFraction("t 0", x.by(0, 0, 0), x.by(0, 0, 1), 0, 1);
        isFraction("t 9999", x.by(0, 9999, 0), x.by(0, 9999, 1), 1, 1);
    }

    private static void endsNoLater() {
        says(15, "in n tries (those whose ends are no later)");
        WithOneHand x = Due.with(5);
        x.mend(0, 9, 6);
        int[] ends = {40, 100, 160, 220, 280, 340};
        long below = 1;
        for (int end : ends) {
            isFraction("ahead of " + end, x.by(0, end - 1, 0), x.by(0, end - 1, 1), below - 1, below);
            below *= 2;
            isFraction("at " + end, x.by(0, end, 0), x.by(0, end, 1), below - 1, below);
        }
        is("law()", Due.tells(x, "0"), 1);
        isFraction("at 0, of 1 second", x.by(0, 0, 0), x.by(0, 0, 1), 0, 1);
        isFraction("at 1, of 1 second", x.by(0, 1, 0), x.by(0, 1, 1), 1, 2);
    }

    private static void sixTriesAtMost() {
        says(15, "a fraction of 12 to the n in lowest terms (6 tries at most count)");
        WithOneHand x = Due.with(1);
        is("law()", Due.tells(x, "1"), 1);
        x.mend(0, 10, 1);
        x.mend(0, 9, 11);
        // 11 to the 6 is 1771561, 12 to the 6 2985984.
        isFraction("five", x.by(0, 10, 0), x.by(0, 10, 1), 248832 - 161051, 248832);
        isFraction("six", x.by(0, 11, 0), x.by(0, 11, 1), 2985984 - 1771561, 2985984);
        isFraction("a seventh", x.by(0, 13, 0), x.by(0, 13, 1), 2985984 - 1771561, 2985984);
        isFraction("all that come", x.by(0, 9999, 0), x.by(0, 9999, 1), 2985984 - 1771561, 2985984);
        is("law()", Due.tells(x, "999"), 1);
        x.mend(0, 10, 99);
        // The sixth ends at 6 * 999 + 5 * 99.
        isFraction("the latest sixth, just not", x.by(0, 6488, 0), x.by(0, 6488, 1), 248832 - 161051, 248832);
        isFraction("the latest sixth", x.by(0, 6489, 0), x.by(0, 6489, 1), 2985984 - 1771561, 2985984);
    }

    private static void byInLowestTerms() {
        says(15, "how likely it is in by then");
        WithOneHand x = Due.with(5);
        long[][] due = {{1, 1}, {11, 12}, {5, 6}, {3, 4}, {2, 3}, {7, 12}, {1, 2}, {5, 12}, {1, 3}, {1, 4}, {1, 6},
            {1, 12}};
        for (int drops = 0; drops <= 11; drops++) {
            x.mend(0, 9, drops);
            isFraction("DROPS " + drops, x.by(0, 40, 0), x.by(0, 40, 1), due[drops][0], due[drops][1]);
            isFraction("DROPS " + drops + ", too early", x.by(0, 39, 0), x.by(0, 39, 1), 0, 1);
        }
        x.mend(0, 9, 0);
        isFraction("DROPS 0, six tries", x.by(0, 9999, 0), x.by(0, 9999, 1), 1, 1);
    }

    private static void howManyTimesMore() {
        says(16, "PRACTICE: how many times more (0 .. 99) the HAND of a CUFF must have done it");
        WithOneHand x = Due.with(1);
        is("law()", Due.tells(x, "n<99?9;1"), 1);
        is("99 times", x.practice(0, 1, 0), 99);
        x.mend(0, 8, 1);
        is("98 times", x.practice(0, 1, 0), 98);
        x.mend(0, 8, 99);
        is("no more", x.practice(0, 1, 0), 0);
        x.mend(0, 8, 0);
        is("law()", Due.tells(x, "n<100?9;1"), 1);
        is("100 times are too many", x.practice(0, 1, 0), NOT);
        x.mend(1, 8, 95);
        x.mend(0, 4, 1);
        is("law()", Due.tells(x, "n<98?9;1"), 1);
        is("by the other hand", x.practice(0, 1, 0), 3);
    }

    private static void noMoreThanX() {
        says(16, "so that a LINK takes no more than x (1 .. 999) SECONDS; NOT.");
        WithOneHand x = Due.with(5);
        is("40", x.practice(0, 40, 0), 0);
        is("41", x.practice(0, 41, 0), 0);
        is("39", x.practice(0, 39, 0), 1);
        is("1", x.practice(0, 1, 0), 39);
        is("999", x.practice(0, 999, 0), 0);
        for (int v : new int[] {0, -1, 1000, MIN, MAX}) {
            is("practice(0, " + v + ", 0)", x.practice(0, v, 0), BAD);
            is("practice(0, " + v + ", 1)", x.practice(0, v, 1), BAD);
        }
        is("law()", Due.tells(x, "5000"), 1);
        is("held at 999", x.practice(0, 999, 0), 0);
        is("998", x.practice(0, 998, 0), NOT);
    }

    private static void whatOfPractice() {
        says(16, "PRACTICE (what 0), LEVEL (1) for x SECONDS. BAD; NOT.");
        WithOneHand x = Due.with(5);
        is("what 0", x.practice(0, 38, 0), 2);
        is("what 1", x.practice(0, 38, 1), 3);
        for (int what : new int[] {-1, 2, MIN, MAX}) is("what " + what, x.practice(0, 38, what), BAD);
        for (int lc : new int[] {-1, 1, 10, MIN, MAX}) is("practice(" + lc + ", 1, 0)", x.practice(lc, 1, 0), BAD);
    }

    private static void levels() {
        says(16, "LEVEL: the least SKILL (0 .. 9) likewise; NOT.");
        WithOneHand x = Due.with(1);
        is("law()", Due.tells(x, "h<9?9;1"), 1);
        is("SKILL 9", x.practice(0, 1, 1), 9);
        is("SKILL 0", x.practice(0, 9, 1), 0);
        is("law()", Due.tells(x, "h<10?9;1"), 1);
        is("SKILL 10 is none", x.practice(0, 1, 1), NOT);
        is("law()", Due.tells(x, "h=4|h=6?1;9"), 1);
        is("the least of two", x.practice(0, 1, 1), 4);
    }

    private static void leastSkillOfALink() {
        says(16, "likewise; NOT.");
        WithOneHand x = Due.with(5);
        is("no more than 50", x.practice(0, 50, 1), 0);
        is("no more than 49", x.practice(0, 49, 1), 1);
        is("no more than 5", x.practice(0, 5, 1), 9);
        is("no more than 4", x.practice(0, 4, 1), NOT);
        x.mend(0, 8, 1);
        is("DONE as it is", x.practice(0, 4, 1), 9);
        is("SKILL stays", x.of(0, 6), 2);
    }
}
