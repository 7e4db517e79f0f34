/** Boundary cases of promises 17 to 20: search, told, asked, two. */
final class HelpEdges extends Edge {
    private HelpEdges() { }

    static void all() {
        searchOfNoSpots();
        kOfSearch();
        searchOfLikeOnes();
        searchIsLeast();
        toldAsFarAsSuchSpots();
        toldBehindAll();
        toldInOrder();
        toldOfNoSpots();
        secondsOfTheHelper();
        kt();
        cuffsWithLinksOfTheirNumbers();
        howManyCuffs();
        oneThatIsBegun();
        bySkillOfTheHelper();
        waitOrBegin();
        whatOfAsked();
        cuffsAndLinks0And1();
        fewerThanTwo();
        skillsOfTwo();
        digitsOfTwo();
        byTheBetterHand();
        eachDressingItself();
        ofLikeOnesAlone();
        whatOfTwo();
    }

    private static void searchOfNoSpots() {
        says(17, "that mean: a fraction; the k-th SPOT; NOT: no SPOTS.");
        WithOneHand x = new WithOneHand();
        for (int k : new int[] {-2, -1, 0, 1, 7, 8, MAX}) is("search(" + k + ")", x.search(k), NOT);
        for (int k : new int[] {-3, -4, MIN}) is("search(" + k + ")", x.search(k), REFUSED);
    }

    private static void kOfSearch() {
        says(17, "(k -2 above, -1 below the line), the k-th SPOT. Long.MIN_VALUE; NOT: no SPOTS, or not as many.");
        for (int many = 1; many <= 8; many++) {
            WithOneHand x = new WithOneHand();
            for (int i = 0; i < many; i++) x.spot(1, 1);
            for (int k : new int[] {-3, -4, MIN}) is("search(" + k + ") of " + many, x.search(k), REFUSED);
            // (1 + .. + many) of many.
            is("above the line", x.search(-2), many % 2 == 0 ? many + 1 : (many + 1) / 2);
            is("below the line", x.search(-1), many % 2 == 0 ? 2 : 1);
            is("search(0) of " + many, x.search(0), 0);
            is("the last of " + many, x.search(many - 1), many - 1);
            for (int k : new int[] {many, many + 1, MAX}) is("search(" + k + ") of " + many, x.search(k), NOT);
        }
    }

    private static void searchOfLikeOnes() {
        says(17, "(least LOOK by LIKELY first; of like ones the least number)");
        WithOneHand x = new WithOneHand();
        int[][] spots = {{99, 99}, {50, 49}, {1, 1}, {99, 98}, {2, 2}, {98, 99}, {50, 51}, {1, 99}};
        for (int[] s : spots) x.spot(s[0], s[1]);
        // 49/50 is less than 98/99, 99/98 less than 51/50.
        int[] due = {1, 3, 0, 2, 4, 5, 6, 7};
        for (int k = 0; k < 8; k++) is("search(" + k + ")", x.search(k), due[k]);
        x.mend(7, 11, 99);
        x.mend(7, 12, 1);
        is("the last one now first", x.search(0), 7);
    }

    private static void searchIsLeast() {
        says(17, "SEARCH: in which order the mean of seconds till it is found is least");
        WithOneHand x = new WithOneHand();
        x.spot(1, 1);
        is("one of the least, above", x.search(-2), 1);
        is("one of the least, below", x.search(-1), 1);
        x.mend(0, 11, 99);
        x.mend(0, 12, 99);
        is("one of the most, above", x.search(-2), 99);
        is("one of the most, below", x.search(-1), 1);
        for (int i = 1; i < 8; i++) x.spot(99, 99);
        is("eight of the most, above", x.search(-2), 891);
        is("eight of the most, below", x.search(-1), 2);
    }

    private static WithOneHand threeSpots() {
        WithOneHand x = new WithOneHand();
        x.spot(5, 10);
        x.spot(9, 30);
        x.spot(2, 3);
        return x;
    }

    private static void isTold(WithOneHand x, long above, long below, long... row) {
        Due.lays(x, 0, BYTES, row);
        String of = "told of " + java.util.Arrays.toString(row);
        is(of + ", above", x.told(0, 0), above);
        is(of + ", below", x.told(0, 1), below);
    }

    private static void toldAsFarAsSuchSpots() {
        says(18, "(as far as such SPOTS, each once;");
        WithOneHand x = threeSpots();
        isTold(x, 229, 8, 2, 0, 1);
        for (long no : new long[] {3, 4, 8, 127, -1, -2, -128}) {
            isTold(x, 999, 1, no, 2, 0, 1);
            // 2 * 3 + 14 * 999 of 16, and 2 * 3 + 5 * 13 + 9 * 999 of 16.
            isTold(x, 1749, 2, 2, no, 0, 1);
            isTold(x, 4531, 8, 2, 0, no, 1);
            isTold(x, 229, 8, 2, 0, 1, no);
        }
        isTold(x, 229, 8, 2, 0, 1, 2, 0, 1);
        isTold(x, 1749, 2, 2, 2, 2);
    }

    private static void toldBehindAll() {
        says(18, "one that is in none of it is found behind all at 999 seconds): a fraction.");
        WithOneHand x = threeSpots();
        isTold(x, 999, 1);
        isTold(x, 1749, 2, 2);
        isTold(x, 4531, 8, 2, 0);
        isTold(x, 229, 8, 2, 0, 1);
        x = new WithOneHand();
        x.spot(1, 1);
        isTold(x, 999, 1);
        isTold(x, 1, 1, 0);
    }

    private static void toldInOrder() {
        says(18, "As told: the mean in the order of a ROW of bytes on a SHELF");
        WithOneHand x = threeSpots();
        // 5 * 10 + 9 * 40 + 2 * 43; 9 * 30 + 5 * 40 + 2 * 43.
        isTold(x, 31, 1, 0, 1, 2);
        isTold(x, 139, 4, 1, 0, 2);
        for (int i = 3; i < 8; i++) x.spot(99, 99);
        long[] sixty = new long[60];
        for (int i = 0; i < 60; i++) sixty[i] = i;
        // 496, and 99 times 142 + 241 + 340 + 439 + 538, of 511.
        isTold(x, 496 + 99 * 1700, 511, sixty);
    }

    private static void toldOfNoSpots() {
        says(18, "Long.MIN_VALUE, too: no ROW of bytes; NOT: no SPOTS.");
        WithOneHand x = new WithOneHand();
        is("nothing on it, no SPOTS", x.told(0, 0), REFUSED);
        x.row(0, BYTES, 0);
        is("no SPOTS, above", x.told(0, 0), NOT);
        is("no SPOTS, below", x.told(0, 1), NOT);
        for (int part : new int[] {-1, 2, MIN, MAX}) is("part " + part + ", no SPOTS", x.told(0, part), REFUSED);
        x.spot(1, 1);
        is("a ROW of no bytes", x.told(0, 0), 999);
        for (int part : new int[] {-1, 2, MIN, MAX}) is("part " + part, x.told(0, part), REFUSED);
        for (int shelf : new int[] {-1, 6, MIN, MAX}) is("shelf " + shelf, x.told(shelf, 0), REFUSED);
        is("nothing on it", x.told(1, 0), REFUSED);
        for (int sort : new int[] {SHORTS, INTS, LONGS, BOOLEANS}) {
            x.row(1, sort, 1);
            is("a ROW of sort " + sort, x.told(1, 0), REFUSED);
        }
        x.body(0);
        x.keep(1, 0);
        is("a HOLE", x.told(1, 0), REFUSED);
        x.row(5, BYTES, 1);
        is("a ROW of bytes", x.told(5, 0), 1);
    }

    private static void secondsOfTheHelper() {
        says(19, "ASKED: a helper of SKILL k comes at second t (0 .. 9999) and does what is left, by its SKILL");
        WithOneHand x = Due.with(2, 3, 4);
        // By oneself 16, 24, 32; by one of SKILL 7 6, 9, 12.
        is("t 0", x.asked(3, 70000, 0), 27);
        is("t 1", x.asked(3, 70001, 0), 16 + 9 + 12);
        is("t 9999", x.asked(3, 79999, 0), 16 + 24 + 32);
    }

    private static void kt() {
        says(19, "kt: 10000 times SKILL and the second. BAD.");
        WithOneHand x = Due.with(2);
        for (int bad : new int[] {-1, -10000, 100000, 100001, MIN, MAX}) {
            is("asked(1, " + bad + ", 0)", x.asked(1, bad, 0), BAD);
            is("asked(1, " + bad + ", 1)", x.asked(1, bad, 1), BAD);
            is("asked(0, " + bad + ", 0)", x.asked(0, bad, 0), BAD);
        }
        for (int k = 0; k <= 9; k++) is("SKILL " + k + ", second 0", x.asked(1, 10000 * k, 0), (10 - k) * 2);
        for (int k = 0; k <= 9; k++) is("SKILL " + k + ", second 9999", x.asked(1, 10000 * k + 9999, 0), 16);
    }

    private static void cuffsWithLinksOfTheirNumbers() {
        says(19, "of all CUFFS 0 .. n less 1 with LINKS of their numbers");
        WithOneHand x = Due.with(1, 2, 3, 4, 5, 6);
        for (int c = 0; c < 6; c++) x.mend(c, 2, 9 - c);
        int sum = 0;
        for (int n = 0; n <= 6; n++) {
            is("CUFFS 0 .. " + n + " less 1", x.asked(n, 9999, 0), sum);
            sum += 8 * (n + 1) + 9 - n;
        }
    }

    private static void howManyCuffs() {
        says(19, "ASKED of n (0 .. as many as there are LINKS and CUFFS)");
        for (int links = 0; links <= 3; links++) {
            for (int cuffs = 0; cuffs <= 3; cuffs++) {
                WithOneHand x = new WithOneHand();
                for (int i = 0; i < links; i++) x.link(1, 0);
                for (int i = 0; i < cuffs; i++) x.cuff(0, 0);
                for (int n = 0; n <= 4; n++) {
                    boolean isThere = n <= links && n <= cuffs;
                    is(links + " links, " + cuffs + " cuffs: " + n, x.asked(n, 9999, 0), isThere ? 8 * n : BAD);
                }
                for (int n : new int[] {-1, 7, MIN, MAX}) is("n " + n, x.asked(n, 9999, 0), BAD);
            }
        }
        is("six", Due.with(1, 1, 1, 1, 1, 1).asked(6, 9999, 0), 48);
    }

    private static void oneThatIsBegun() {
        says(19, "done in order by oneself till the helper comes (one that is begun is ended first; SECONDS of now)");
        WithOneHand x = Due.with(2, 3, 4);
        int[] t = {0, 1, 15, 16, 17, 39, 40, 41, 71, 72, 73};
        int[] due = {27, 37, 37, 37, 52, 52, 52, 72, 72, 72, 72};
        for (int i = 0; i < t.length; i++) is("at " + t[i], x.asked(3, 70000 + t[i], 0), due[i]);
        x.mend(0, 8, 5);
        is("DONE does not go on", x.asked(3, 79999, 0), 11 + 19 + 27);
        is("DONE stays", x.of(0, 8), 5);
    }

    private static void bySkillOfTheHelper() {
        says(19, "(n 0, THE LAW's c as it is)");
        WithOneHand x = Due.with(1, 1);
        x.mend(0, 8, 40);
        is("law()", Due.tells(x, "h*100+c*10+n"), 1);
        is("the first by oneself, the second by it", x.asked(2, 30001, 0), 240 + 310);
        is("both by it", x.asked(2, 30000, 0), 300 + 310);
        is("both by oneself", x.asked(2, 30241, 0), 240 + 250);
    }

    private static void waitOrBegin() {
        says(19, "WAIT: is it earlier to wait for the helper ahead of all (1), or to begin (0)?");
        WithOneHand x = Due.with(2, 3, 4);
        int[] t = {0, 1, 9, 10, 11, 16, 17, 24, 25, 26, 40, 41, 44, 45, 46, 9999};
        int[] due = {0, 1, 1, 0, 0, 0, 1, 1, 0, 0, 0, 1, 1, 0, 0, 0};
        for (int i = 0; i < t.length; i++) is("at " + t[i], x.asked(3, 70000 + t[i], 1), due[i]);
        for (int at : new int[] {0, 1, 9999, 99999}) is("none, at " + at, x.asked(0, at, 1), 0);
    }

    private static void whatOfAsked() {
        says(19, "when (what 0), WAIT (1).");
        WithOneHand x = Due.with(2);
        is("what 0", x.asked(1, 90001, 0), 16);
        is("what 1", x.asked(1, 90001, 1), 1);
        for (int what : new int[] {-1, 2, MIN, MAX}) is("what " + what, x.asked(1, 90001, what), BAD);
        is("none: when", x.asked(0, 99999, 0), 0);
        is("none of none: when", new WithOneHand().asked(0, 0, 0), 0);
    }

    private static void cuffsAndLinks0And1() {
        says(20, "TWO: two people, each with CUFFS 0 .. 1, LINKS 0 .. 1");
        WithOneHand x = Due.with(2, 3, 9, 9);
        for (int c = 2; c < 4; c++) x.mend(c, 2, 9);
        is("alone", x.two(0, 0, 0), 50);
        is("by help", x.two(0, 0, 1), 100);
        x.mend(0, 2, 1);
        x.mend(1, 2, 3);
        is("alone, starched", x.two(0, 0, 0), 54);
        x.mend(0, 0, 1);
        x.mend(1, 0, 1);
        is("by help, of less hard ones", x.two(0, 0, 1), 48);
    }

    private static void fewerThanTwo() {
        says(20, "(STATE: fewer than two of each)");
        for (int links = 0; links <= 3; links++) {
            for (int cuffs = 0; cuffs <= 3; cuffs++) {
                WithOneHand x = new WithOneHand();
                for (int i = 0; i < links; i++) x.link(1, 0);
                for (int i = 0; i < cuffs; i++) x.cuff(0, 0);
                boolean isThere = links >= 2 && cuffs >= 2;
                is(links + " links, " + cuffs + " cuffs", x.two(0, 0, 0), isThere ? 20 : STATE);
                is("help", x.two(99, 99, 1), isThere ? 4 : STATE);
                is("which", x.two(99, 99, 2), isThere ? 0 : STATE);
            }
        }
    }

    private static void skillsOfTwo() {
        says(20, "(one, other: 10 times SKILL of HAND 0 and that of HAND 1)");
        WithOneHand x = Due.with(2, 3);
        x.mend(1, 4, 1);
        for (int bad : new int[] {-1, 100, 101, MIN, MAX}) {
            is("two(" + bad + ", 0, 0)", x.two(bad, 0, 0), BAD);
            is("two(0, " + bad + ", 0)", x.two(0, bad, 0), BAD);
            is("BAD is named first", new WithOneHand().two(bad, 0, 0), BAD);
            is("BAD is named first, too", new WithOneHand().two(0, bad, 0), BAD);
        }
        is("0: 20 + 30", x.two(0, 99, 0), 50);
        is("99: 2 + 3", x.two(99, 99, 0), 5);
        is("9: 20 + 3", x.two(9, 99, 0), 23);
        is("90: 2 + 30", x.two(90, 99, 0), 32);
        is("0 of the other", x.two(99, 0, 0), 50);
        is("9 of the other", x.two(99, 9, 0), 23);
        is("90 of the other", x.two(99, 90, 0), 32);
    }

    private static void digitsOfTwo() {
        says(20, "the other's likewise (digits; n 0 in THE LAW)");
        WithOneHand x = Due.with(2, 3);
        x.mend(0, 8, 99);
        x.mend(1, 8, 99);
        is("n 0 without a text", x.two(0, 0, 0), 50);
        is("n 0 without a text, by help", x.two(0, 0, 1), 100);
        is("law()", Due.tells(x, "n+h+1"), 1);
        is("n 0", x.two(27, 35, 0), 4 + 4);
        is("n 0, by help", x.two(27, 35, 1), 8 + 8 + 6 + 6);
        x.mend(0, 4, 1);
        is("the first by hand 1", x.two(27, 35, 0), 8 + 3);
    }

    private static void byTheBetterHand() {
        says(20, "or the one helps the other with both (by its better HAND), then the other the one");
        WithOneHand x = Due.with(2, 3);
        int[][] cases = {{28, 53, 35}, {82, 35, 35}, {0, 0, 100}, {9, 90, 10}, {90, 0, 55}, {55, 44, 55}};
        for (int[] c : cases) is("two(" + c[0] + ", " + c[1] + ", 1)", x.two(c[0], c[1], 1), c[2]);
        x.mend(0, 4, 1);
        for (int[] c : cases) is("whichever HAND does it", x.two(c[0], c[1], 1), c[2]);
    }

    private static void eachDressingItself() {
        says(20, "each dressing itself, at the same time");
        WithOneHand x = Due.with(2, 3);
        x.link(9, 0);
        x.cuff(9, 9);
        int[][] cases = {{20, 50, 40}, {50, 20, 40}, {20, 20, 40}, {29, 59, 40}, {0, 90, 50}};
        for (int[] c : cases) is("two(" + c[0] + ", " + c[1] + ", 0)", x.two(c[0], c[1], 0), c[2]);
    }

    private static void ofLikeOnesAlone() {
        says(20, "which is earlier (0 alone, 1 help; of like ones 0)");
        WithOneHand x = Due.with(2, 2);
        // Alone by hand 0: (10 - h) * 4; by help: (10 - better) * 4 each.
        is("40 alone, 40 by help", x.two(5, 5, 2), 0);
        is("40 alone, 36 by help", x.two(5, 6, 2), 1);
        is("40 alone, 44 by help", x.two(5, 4, 2), 0);
        is("alone of these", x.two(5, 4, 0), 40);
        is("by help of these", x.two(5, 4, 1), 44);
    }

    private static void whatOfTwo() {
        says(20, "alone (what 0), by help (1), which (2). BAD; STATE.");
        WithOneHand x = Due.with(2, 3);
        int[] due = {50, 10, 1};
        for (int what = 0; what <= 2; what++) is("what " + what, x.two(9, 9, what), due[what]);
        for (int what : new int[] {-1, 3, MIN, MAX}) {
            is("what " + what, x.two(9, 9, what), BAD);
            is("BAD is named first", new WithOneHand().two(9, 9, what), BAD);
        }
    }
}
