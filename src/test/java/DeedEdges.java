/** Boundary cases of promises 25 to 32: puts, out, night, led, image, back, undo, redo. */
final class DeedEdges extends Edge {
    private DeedEdges() { }

    static void all() {
        eachInOne();
        inOneOfSixCuffs();
        putsOrState();
        doneOneMore();
        outOfNone();
        nights();
        allAreOut();
        whatOfLed();
        imageOfNothing();
        noImage();
        cuffsThatCameSince();
        whatAnImageKeeps();
        undoOfNone();
        latestFirst();
        sameNumber();
        redoOfNone();
        anotherCameBehind();
        fortyAtMost();
        fortyOfManyNumbers();
        deedsAreNone();
        allNumbersOfMend();
        the512thCall();
    }

    private static void eachInOne() {
        says(25, "a LINK is PUT into a CUFF (each in one at most, each CUFF one)");
        WithOneHand x = Due.with(1, 1, 1, 1, 1, 1);
        for (int i = 0; i < 6; i++) x.mend(i, 3, i);
        is("law()", Due.tells(x, "o+7"), 1);
        for (int i = 0; i < 6; i++) {
            is("puts of " + (5 - i) + " and " + i, x.puts(10 * (5 - i) + i), 7 + i);
            is("it again", x.puts(10 * (5 - i) + i), STATE);
        }
        for (int lc = 0; lc < 60; lc++) is("puts(" + lc + ") when all are in", x.puts(lc), lc % 10 < 6 ? STATE : BAD);
        for (int i = 0; i < 6; i++) is("in cuff " + i, x.of(i, 13), 5 - i);
        is("put", x.led(1), 6);
        is("seconds", x.led(0), 7 + 8 + 9 + 10 + 11 + 12);
    }

    private static void inOneOfSixCuffs() {
        says(25, "(each in one at most");
        for (int in = 0; in < 6; in++) {
            WithOneHand x = Due.with(1, 1, 1, 1, 1, 1);
            x.puts(10 * in + 5 - in);
            for (int other = 0; other < 6; other++) {
                is("link " + in + " into " + other, x.puts(10 * in + other), STATE);
                is("link " + other + " into " + (5 - in), x.puts(10 * other + 5 - in), STATE);
            }
            is("put", x.led(1), 1);
            is("another into another", x.puts((in + 1) % 6 * 10 + (6 - in) % 6), 7);
        }
    }

    private static void putsOrState() {
        says(25, "PUT: SECONDS. BAD; STATE: the LINK is in one, or the CUFF has one.");
        WithOneHand x = Due.with(1, 2, 3);
        for (int lc : new int[] {-1, 3, 9, 30, 33, MIN, MAX}) is("puts(" + lc + ")", x.puts(lc), BAD);
        is("puts(12)", x.puts(12), 16);
        is("the link is in one", x.puts(10), STATE);
        is("the cuff has one", x.puts(22), STATE);
        is("both", x.puts(12), STATE);
        is("BAD is named first", x.puts(13), BAD);
        is("neither", x.puts(20), 23);
        is("DONE", x.of(0, 8), 2);
        is("put", x.led(1), 2);
        is("seconds", x.led(0), 39);
    }

    private static void doneOneMore() {
        says(25, "DONE of the HAND is one more (99 at most)");
        WithOneHand x = Due.with(1, 1, 1);
        x.mend(2, 4, 1);
        x.mend(0, 8, 97);
        int[] due = {98, 99, 99, 99};
        for (int i = 0; i < 4; i++) {
            is("puts(0)", x.puts(0), 1);
            is("DONE of hand 0", x.of(0, 8), due[i]);
            x.out(0);
        }
        is("DONE of hand 1", x.of(1, 8), 0);
        is("by hand 1", x.puts(2), 2);
        is("DONE of hand 1", x.of(1, 8), 1);
        is("DONE of hand 0", x.of(0, 8), 99);
        x.mend(1, 8, 99);
        x.out(2);
        is("by hand 1", x.puts(2), 1);
        is("DONE of hand 1", x.of(1, 8), 99);
        is("put", x.led(1), 6);
    }

    private static void outOfNone() {
        says(26, "TAKEN OUT of a CUFF: the LINK. BAD; STATE: there is none.");
        WithOneHand x = Due.with(1, 2);
        for (int cuff : new int[] {-1, 2, 6, MIN, MAX}) is("out(" + cuff + ")", x.out(cuff), BAD);
        is("out(0) of none", x.out(0), STATE);
        x.puts(10);
        x.puts(1);
        is("out(0)", x.out(0), 1);
        is("out(0) again", x.out(0), STATE);
        is("out(1)", x.out(1), 0);
        is("out(1) again", x.out(1), STATE);
        is("taken out", x.led(2), 2);
        is("out(0) of no cuffs", new WithOneHand().out(0), BAD);
    }

    private static void nights() {
        says(27, "A NIGHT: how many were in.");
        WithOneHand x = Due.with(1, 1, 1, 1, 1, 1);
        is("of no cuffs", new WithOneHand().night(), 0);
        for (int many = 0; many <= 6; many++) {
            for (int i = 0; i < many; i++) x.puts(11 * i);
            is("of " + many, x.night(), many);
            is("once more", x.night(), 0);
        }
        is("nights", x.led(3), 14);
    }

    private static void allAreOut() {
        says(27, "a NIGHT: all are out.");
        WithOneHand x = Due.with(1, 1, 1, 1, 1, 1);
        for (int i = 0; i < 6; i++) x.puts(11 * i);
        x.night();
        for (int i = 0; i < 6; i++) {
            is("in cuff " + i, x.of(i, 13), NOT);
            is("out(" + i + ")", x.out(i), STATE);
        }
        for (int i = 0; i < 6; i++) is("puts in again", x.puts(10 * i + 5 - i), i == 0 ? 2 : 1);
        is("DONE stays", x.of(0, 8), 12);
        is("put", x.led(1), 12);
    }

    private static void whatOfLed() {
        says(28, "LED: seconds (what 0), put (1), taken out (2), nights (3). BAD.");
        WithOneHand x = Due.with(5, 4);
        for (int what : new int[] {-1, 4, MIN, MAX}) is("led(" + what + ")", x.led(what), BAD);
        for (int what = 0; what <= 3; what++) is("led(" + what + ") at first", x.led(what), 0);
        x.puts(0);
        x.puts(11);
        x.out(0);
        x.puts(0);
        x.out(1);
        x.out(0);
        x.night();
        x.out(0);
        x.puts(99);
        int[] due = {40 + 31 + 38, 3, 3, 1};
        for (int what = 0; what <= 3; what++) is("led(" + what + ")", x.led(what), due[what]);
    }

    private static void imageOfNothing() {
        says(29, "AN IMAGE is kept: seconds.");
        WithOneHand x = new WithOneHand();
        is("image() of a new one", x.image(), 0);
        is("back() of it", x.back(), 0);
        x.link(5, 0);
        x.cuff(0, 0);
        x.puts(0);
        x.night();
        is("back() to it", x.back(), 0);
        for (int what = 0; what <= 3; what++) is("led(" + what + ")", x.led(what), 0);
        is("DONE", x.of(0, 8), 0);
        x.puts(0);
        is("image() in place of it", x.image(), 40);
        x.night();
        is("back() to that", x.back(), 40);
        is("nights", x.led(3), 0);
    }

    private static void noImage() {
        says(30, "seconds. STATE: there is none.");
        WithOneHand x = Due.with(5);
        x.puts(0);
        is("back()", x.back(), STATE);
        is("it is in", x.of(0, 13), 0);
        is("seconds", x.led(0), 40);
        is("DONE", x.of(0, 8), 1);
        is("image()", x.image(), 40);
        is("back() then", x.back(), 40);
        is("back() again", x.back(), 40);
    }

    private static void cuffsThatCameSince() {
        says(30, "It is laid back (in CUFFS that came since: none)");
        WithOneHand x = Due.with(1, 2);
        x.puts(0);
        x.image();
        for (int i = 0; i < 4; i++) x.cuff(0, 0);
        for (int i = 0; i < 4; i++) x.link(1, 0);
        x.out(0);
        for (int i = 1; i < 6; i++) x.puts(11 * i);
        x.puts(0);
        is("back()", x.back(), 8);
        is("in cuff 0", x.of(0, 13), 0);
        for (int i = 1; i < 6; i++) is("in cuff " + i, x.of(i, 13), NOT);
        is("cuffs", x.count(1), 6);
        is("links", x.count(0), 6);
        is("a link that came since", x.puts(55), 7);
    }

    private static void whatAnImageKeeps() {
        says(30, "AN IMAGE keeps which are in, DONE, what LED tells.");
        WithOneHand x = Due.with(1, 2, 3, 4, 5, 6);
        for (int i = 0; i < 6; i++) x.mend(i, 4, i % 2);
        x.mend(0, 8, 10);
        x.mend(1, 8, 20);
        is("law()", Due.tells(x, "n"), 1);
        for (int i = 0; i < 5; i++) x.puts(10 * i + 5 - i);
        x.out(3);
        x.night();
        x.puts(25);
        x.puts(4);
        is("image()", x.image(), 10 + 11 + 20 + 21 + 22 + 23 + 12);
        x.night();
        x.night();
        x.puts(50);
        x.puts(1);
        x.out(0);
        x.mend(0, 6, 9);
        is("back()", x.back(), 119);
        int[] in = {NOT, NOT, NOT, NOT, 0, 2}, led = {119, 7, 1, 1}, done = {13, 24};
        for (int c = 0; c < 6; c++) is("in cuff " + c, x.of(c, 13), in[c]);
        for (int what = 0; what <= 3; what++) is("led(" + what + ")", x.led(what), led[what]);
        for (int hand = 0; hand <= 1; hand++) is("DONE of hand " + hand, x.of(hand, 8), done[hand]);
        is("SKILL is not kept", x.of(0, 6), 9);
    }

    private static void undoOfNone() {
        says(31, "UNDONE: how many may still be. STATE: none.");
        WithOneHand x = Due.with(1);
        is("none", x.undo(), STATE);
        x.mend(0, 0, 2);
        x.mend(0, 0, 3);
        is("the second", x.undo(), 1);
        is("the first", x.undo(), 0);
        is("none any more", x.undo(), STATE);
        is("HARD", x.of(0, 0), 1);
        is("none may be", x.count(4), 0);
        is("both may be done again", x.redo(), 1);
    }

    private static void latestFirst() {
        says(31, "can be UNDONE, the latest first");
        WithOneHand x = Due.with(1);
        x.mend(0, 0, 2);
        x.mend(0, 2, 9);
        x.mend(0, 0, 5);
        int[][] due = {{2, 9}, {2, 0}, {1, 0}};
        for (int i = 0; i < 3; i++) {
            is("undo()", x.undo(), 2 - i);
            is("HARD", x.of(0, 0), due[i][0]);
            is("STARCH", x.of(0, 2), due[i][1]);
        }
    }

    private static void sameNumber() {
        says(31, "CHANGES (all numbers of mend(); telling the same number is none)");
        WithOneHand x = Due.with(1);
        is("mend(0, 0, 1)", x.mend(0, 0, 1), 1);
        is("changes", x.count(4), 0);
        is("undo()", x.undo(), STATE);
        x.mend(0, 0, 2);
        is("mend(0, 0, 2)", x.mend(0, 0, 2), 2);
        is("changes", x.count(4), 1);
        x.undo();
        is("mend(0, 0, 1) behind it", x.mend(0, 0, 1), 1);
        is("it may be done again", x.redo(), 0);
        is("HARD", x.of(0, 0), 2);
    }

    private static void redoOfNone() {
        says(32, "DONE AGAIN: how many may still be. STATE: none.");
        WithOneHand x = Due.with(1);
        is("none", x.redo(), STATE);
        x.mend(0, 0, 2);
        x.mend(0, 0, 3);
        is("none undone", x.redo(), STATE);
        x.undo();
        x.undo();
        is("the first", x.redo(), 1);
        is("HARD of it", x.of(0, 0), 2);
        is("the second", x.redo(), 0);
        is("HARD of that", x.of(0, 0), 3);
        is("none any more", x.redo(), STATE);
        is("HARD stays", x.of(0, 0), 3);
        is("both may be undone", x.count(4), 2);
    }

    private static void anotherCameBehind() {
        says(32, "and DONE AGAIN (as long as no other came behind)");
        WithOneHand x = Due.with(1);
        for (int v = 2; v <= 5; v++) x.mend(0, 0, v);
        x.undo();
        x.undo();
        is("one again", x.redo(), 1);
        is("a BAD one", x.mend(0, 0, 10), BAD);
        is("one that is there no more", x.mend(1, 0, 1), BAD);
        is("another", x.mend(0, 3, 1), 0);
        is("redo()", x.redo(), STATE);
        is("HARD", x.of(0, 0), 4);
        is("OFF", x.of(0, 3), 1);
        is("changes", x.count(4), 4);
        int[] hard = {4, 3, 2, 1};
        for (int i = 0; i < 4; i++) {
            is("undo()", x.undo(), 3 - i);
            is("HARD", x.of(0, 0), hard[i]);
        }
        is("OFF", x.of(0, 3), 0);
    }

    private static void fortyAtMost() {
        says(31, "40 at most are kept");
        for (int many : new int[] {39, 40, 41, 42, 90}) {
            WithOneHand x = Due.with(1);
            for (int i = 1; i <= many; i++) {
                x.mend(0, 5, i % 100 == 20 ? 99 : i);
                is("changes", x.count(4), Math.min(40, i));
            }
            int kept = Math.min(40, many);
            for (int i = kept - 1; i >= 0; i--) is("undo() of " + many, x.undo(), i);
            is("undo() of no more", x.undo(), STATE);
            is("GAP", x.of(0, 5), many <= 40 ? 20 : many - 40);
            for (int i = kept - 1; i >= 0; i--) is("redo() of " + many, x.redo(), i);
            is("redo() of no more", x.redo(), STATE);
            is("GAP at last", x.of(0, 5), many);
        }
        WithOneHand x = Due.with(1);
        for (int i = 0; i < 40; i++) x.mend(0, 5, 40 + i);
        x.undo();
        x.mend(0, 5, 7);
        is("forty again", x.count(4), 40);
        x.mend(0, 5, 8);
        is("forty still", x.count(4), 40);
        for (int i = 0; i < 40; i++) x.undo();
        is("GAP behind the oldest", x.of(0, 5), 40);
    }

    private static void fortyOfManyNumbers() {
        says(31, "40 at most are kept;");
        WithOneHand x = Due.with(1, 1, 1, 1, 1, 1);
        // 45 changes: each STARCH, OFF, GAP and HARD in turn; the oldest five are kept no more.
        int[] whats = {2, 3, 5, 0};
        int[][] was = new int[45][];
        for (int i = 0; i < 45; i++) {
            int number = i * 5 % 6, what = whats[i % 4];
            was[i] = new int[] {number, what, x.of(number, what), 2 + i / 12};
            x.mend(number, what, was[i][3]);
        }
        for (int i = 44; i >= 5; i--) {
            is("undo() of " + i, x.undo(), i - 5);
            is("as it was", x.of(was[i][0], was[i][1]), was[i][2]);
        }
        is("no more", x.undo(), STATE);
        for (int i = 5; i < 45; i++) {
            is("redo() of " + i, x.redo(), 44 - i);
            is("as it became", x.of(was[i][0], was[i][1]), was[i][3]);
        }
    }

    private static void deedsAreNone() {
        says(31, "deeds are none");
        WithOneHand x = Due.with(1, 2);
        x.mend(0, 0, 9);
        x.undo();
        x.puts(0);
        x.puts(11);
        x.out(0);
        x.image();
        x.night();
        x.back();
        is("changes", x.count(4), 0);
        is("undo()", x.undo(), STATE);
        is("nothing came behind", x.redo(), 0);
        is("HARD", x.of(0, 0), 9);
        is("DONE", x.of(0, 8), 2);
        is("undo() of that", x.undo(), 0);
        is("DONE stays", x.of(0, 8), 2);
        is("in cuff 1", x.of(1, 13), 1);
    }

    private static void allNumbersOfMend() {
        says(31, "(all numbers of mend();");
        WithOneHand x = Due.with(1, 1, 1, 1, 1, 1);
        for (int i = 0; i < 8; i++) x.spot(1, 1);
        int[] last = {5, 5, 5, 5, 5, 5, 1, 1, 1, 0, 0, 7, 7};
        int[] was = new int[13];
        for (int what = 0; what <= 12; what++) {
            was[what] = x.of(last[what], what);
            int v = was[what] == 1 ? 2 : 1;
            is("mend of " + what, x.mend(last[what], what, v), was[what]);
            is("changes", x.count(4), what + 1);
        }
        for (int what = 12; what >= 0; what--) {
            is("undo of " + what, x.undo(), what);
            is("as it was", x.of(last[what], what), was[what]);
        }
        for (int what = 0; what <= 12; what++) {
            is("redo of " + what, x.redo(), 12 - what);
            is("as it became", x.of(last[what], what), was[what] == 1 ? 2 : 1);
        }
    }

    private static void the512thCall() {
        says(28, "An object is used for at most 512 calls after it has been made");
        WithOneHand x = Due.with(1);
        for (int i = 0; i < 254; i++) {
            is("puts(0)", x.puts(0), Math.max(1, 8 - i));
            is("out(0)", x.out(0), 0);
        }
        is("the 511th", x.led(2), 254);
        is("the 512th", x.led(0), 36 + 246);
        x = Due.with(1);
        for (int i = 0; i < 509; i++) is("mend(0, 5, ..)", x.mend(0, 5, 30 + i % 2), i == 0 ? 20 : 31 - i % 2);
        is("the 512th", x.undo(), 39);
        x = new WithOneHand();
        for (int i = 0; i < 255; i++) {
            is("feed('5')", x.feed('5'), 1);
            is("law()", x.law(), 1);
        }
        is("the 511th", x.night(), 0);
        is("the 512th", x.led(3), 1);
    }
}
