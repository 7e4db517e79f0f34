/** Boundary cases of promises 1 to 7: a new object, links, cuffs, cuffs from rows, spots, mend(), of(). */
final class LinkEdges extends Edge {
    private LinkEdges() { }

    static void all() {
        aNewObject();
        skillAtFirst();
        wideAtFirst();
        doneAtFirst();
        dropsAndFindsAtFirst();
        shelvesAtFirst();
        memoryOfItsOwn();
        hardOfALink();
        givesOfALink();
        linksAsTheyCome();
        sixLinks();
        starchOfACuff();
        offOfACuff();
        handAtFirst();
        gapAtFirst();
        cuffsAsTheyCome();
        sixCuffs();
        howManyFromARow();
        fromNoRowOfBytes();
        fromAShelfThatHoldsNothing();
        whatComesByThrees();
        theRowIsMissing();
        theRowEnds();
        oneIsNotSo();
        cuffsAreFull();
        likelyAndLookOfASpot();
        spotsAsTheyCome();
        eightSpots();
        MendEdges.all();
    }

    private static void aNewObject() {
        says(1, "Two hands, no cuffs.");
        WithOneHand x = new WithOneHand();
        is("hand 0", x.of(0, 6) >= 0 ? 1 : 0, 1);
        is("hand 1", x.of(1, 6) >= 0 ? 1 : 0, 1);
        is("hand 2", x.of(2, 6), BAD);
        is("hand -1", x.of(-1, 6), BAD);
        is("cuff 0", x.of(0, 2), BAD);
        for (int what = 0; what <= 6; what++) is("count(" + what + ")", x.count(what), 0);
    }

    private static void skillAtFirst() {
        says(1, "HANDS 0, 1: SKILL (0 .. 9; 2 and 8 at first)");
        WithOneHand x = new WithOneHand();
        is("of(0, 6)", x.of(0, 6), 2);
        is("of(1, 6)", x.of(1, 6), 8);
    }

    private static void wideAtFirst() {
        says(1, "WIDE (0 .. 99; 30 at first)");
        WithOneHand x = new WithOneHand();
        is("of(0, 7)", x.of(0, 7), 30);
        is("of(1, 7)", x.of(1, 7), 30);
    }

    private static void doneAtFirst() {
        says(1, "DONE (0 .. 99; 0 at first: how often it has done it)");
        WithOneHand x = new WithOneHand();
        is("of(0, 8)", x.of(0, 8), 0);
        is("of(1, 8)", x.of(1, 8), 0);
    }

    private static void dropsAndFindsAtFirst() {
        says(1, "DROPS (0 .. 11; 0 at first), FINDS (1 .. 99 seconds; 20 at first)");
        WithOneHand x = new WithOneHand();
        is("of(0, 9)", x.of(0, 9), 0);
        is("of(0, 10)", x.of(0, 10), 20);
    }

    private static void shelvesAtFirst() {
        says(1, "SHELVES 0 .. 5 each hold nothing (at first)");
        WithOneHand x = new WithOneHand();
        for (int shelf = 0; shelf <= 5; shelf++) {
            is("put(" + shelf + ", 0, 0)", x.put(shelf, 0, 0), MISSING);
            is("taken(" + shelf + ", 0)", x.taken(shelf, 0), MISSING);
        }
        is("shelf -1", x.put(-1, 0, 0), BAD);
        is("shelf 6", x.put(6, 0, 0), BAD);
    }

    private static void memoryOfItsOwn() {
        says(1, "All memory is the class's own.");
        WithOneHand x = new WithOneHand(), y = new WithOneHand();
        x.link(5, 5);
        x.cuff(5, 5);
        x.mend(0, 6, 9);
        x.feed('7');
        x.row(0, INTS, 5);
        x.body(3);
        x.puts(0);
        x.image();
        is("links of another one", y.count(0), 0);
        is("cuffs of another one", y.count(1), 0);
        is("skill of another one", y.of(0, 6), 2);
        is("tape of another one", y.count(3), 0);
        is("shelf of another one", y.put(0, 0, 1), MISSING);
        is("bodies of another one", y.count(5), 0);
        is("seconds of another one", y.led(0), 0);
        is("image of another one", y.back(), STATE);
        is("changes of another one", y.undo(), STATE);
    }

    private static void hardOfALink() {
        says(2, "HARD (1 .. 9)");
        WithOneHand x = new WithOneHand();
        for (int hard : new int[] {0, -1, 10, 11, MIN, MAX}) is("link(" + hard + ", 0)", x.link(hard, 0), BAD);
        is("none came", x.count(0), 0);
        is("link(1, 0)", x.link(1, 0), 0);
        is("link(9, 0)", x.link(9, 0), 1);
        is("HARD of link 0", x.of(0, 0), 1);
        is("HARD of link 1", x.of(1, 0), 9);
    }

    private static void givesOfALink() {
        says(2, "GIVES (0 .. 9: a chain; 0 at first)");
        WithOneHand x = new WithOneHand();
        for (int gives : new int[] {-1, 10, MIN, MAX}) is("link(1, " + gives + ")", x.link(1, gives), BAD);
        is("none came", x.count(0), 0);
        is("link(5, 0)", x.link(5, 0), 0);
        is("link(5, 9)", x.link(5, 9), 1);
        is("GIVES of link 0", x.of(0, 1), 0);
        is("GIVES of link 1", x.of(1, 1), 9);
    }

    private static void linksAsTheyCome() {
        says(2, "LINKS 0 .. 5, as they come");
        WithOneHand x = new WithOneHand();
        for (int i = 0; i <= 5; i++) {
            is("link " + i + " is not there", x.of(i, 0), BAD);
            is("link " + i, x.link(9 - i, i), i);
            is("links", x.count(0), i + 1);
        }
        for (int i = 0; i <= 5; i++) {
            is("HARD of link " + i, x.of(i, 0), 9 - i);
            is("GIVES of link " + i, x.of(i, 1), i);
        }
    }

    private static void sixLinks() {
        says(2, "A LINK: its number. BAD, FULL: 6.");
        WithOneHand x = new WithOneHand();
        for (int i = 0; i < 5; i++) x.link(1, 0);
        is("the sixth", x.link(1, 0), 5);
        is("the seventh", x.link(1, 0), FULL);
        is("the eighth", x.link(9, 9), FULL);
        is("one that is BAD", x.link(0, 0), BAD);
        is("links", x.count(0), 6);
        is("link 5", x.of(5, 0), 1);
        is("link 6", x.of(6, 0), BAD);
    }

    private static void starchOfACuff() {
        says(3, "STARCH (0 .. 9)");
        WithOneHand x = new WithOneHand();
        for (int starch : new int[] {-1, 10, MIN, MAX}) is("cuff(" + starch + ", 0)", x.cuff(starch, 0), BAD);
        is("none came", x.count(1), 0);
        is("cuff(0, 5)", x.cuff(0, 5), 0);
        is("cuff(9, 5)", x.cuff(9, 5), 1);
        is("STARCH of cuff 0", x.of(0, 2), 0);
        is("STARCH of cuff 1", x.of(1, 2), 9);
    }

    private static void offOfACuff() {
        says(3, "OFF (0 .. 9: how far its holes are off)");
        WithOneHand x = new WithOneHand();
        for (int off : new int[] {-1, 10, MIN, MAX}) is("cuff(0, " + off + ")", x.cuff(0, off), BAD);
        is("none came", x.count(1), 0);
        is("cuff(5, 0)", x.cuff(5, 0), 0);
        is("cuff(5, 9)", x.cuff(5, 9), 1);
        is("OFF of cuff 0", x.of(0, 3), 0);
        is("OFF of cuff 1", x.of(1, 3), 9);
    }

    private static void handAtFirst() {
        says(3, "HAND (0, 1: the HAND that does it; 0 at first)");
        WithOneHand x = new WithOneHand();
        x.cuff(9, 9);
        is("HAND of cuff 0", x.of(0, 4), 0);
        x.mend(0, 4, 1);
        x.cuff(0, 0);
        is("HAND of cuff 1", x.of(1, 4), 0);
    }

    private static void gapAtFirst() {
        says(3, "GAP (0 .. 99: how wide it is once closed; 20 at first)");
        WithOneHand x = new WithOneHand();
        x.cuff(9, 9);
        is("GAP of cuff 0", x.of(0, 5), 20);
        x.mend(0, 5, 99);
        x.cuff(0, 0);
        is("GAP of cuff 1", x.of(1, 5), 20);
        Due.lays(x, 0, BYTES, 1, 1, 1);
        x.cuffs(0, 0, 1);
        is("GAP of a cuff from a row", x.of(2, 5), 20);
    }

    private static void cuffsAsTheyCome() {
        says(3, "CUFFS 0 .. 5, as they come");
        WithOneHand x = new WithOneHand();
        for (int i = 0; i <= 5; i++) {
            is("cuff " + i + " is not there", x.of(i, 2), BAD);
            is("cuff " + i, x.cuff(9 - i, i), i);
            is("cuffs", x.count(1), i + 1);
        }
        for (int i = 0; i <= 5; i++) {
            is("STARCH of cuff " + i, x.of(i, 2), 9 - i);
            is("OFF of cuff " + i, x.of(i, 3), i);
        }
    }

    private static void sixCuffs() {
        says(3, "A CUFF: its number. BAD, FULL: 6.");
        WithOneHand x = new WithOneHand();
        for (int i = 0; i < 5; i++) x.cuff(1, 0);
        is("the sixth", x.cuff(1, 0), 5);
        is("the seventh", x.cuff(1, 0), FULL);
        is("the eighth", x.cuff(9, 9), FULL);
        is("one that is BAD", x.cuff(10, 0), BAD);
        is("cuffs", x.count(1), 6);
        is("cuff 5", x.of(5, 2), 1);
        is("cuff 6", x.of(6, 2), BAD);
    }

    private static void howManyFromARow() {
        says(4, "from place i on, n (1 .. 6) of them: how many came");
        for (int n : new int[] {0, -1, 7, MIN, MAX}) {
            WithOneHand x = new WithOneHand();
            x.row(0, BYTES, 60);
            is("cuffs(0, 0, " + n + ")", x.cuffs(0, 0, n), BAD);
            is("none came", x.count(1), 0);
        }
        for (int n = 1; n <= 6; n++) {
            WithOneHand x = new WithOneHand();
            x.row(0, BYTES, 60);
            is("cuffs(0, 0, " + n + ")", x.cuffs(0, 0, n), n);
            is("so many came", x.count(1), n);
        }
        WithOneHand x = new WithOneHand();
        for (int shelf : new int[] {-1, 6, MIN, MAX}) is("cuffs(" + shelf + ", 0, 1)", x.cuffs(shelf, 0, 1), BAD);
    }

    private static void fromNoRowOfBytes() {
        says(4, "BAD, -12 (no ROW of bytes;");
        WithOneHand x = new WithOneHand();
        x.body(0);
        x.keep(0, 0);
        is("from a HOLE", x.cuffs(0, 0, 1), OTHER_KIND);
        is("from a HOLE, at no place", x.cuffs(0, -1, 1), OTHER_KIND);
        for (int sort : new int[] {SHORTS, INTS, LONGS, BOOLEANS}) {
            x.row(0, sort, 60);
            is("from a ROW of sort " + sort, x.cuffs(0, 0, 1), OTHER_KIND);
            is("from its end on", x.cuffs(0, 60, 1), OTHER_KIND);
            is("n 0 is named first", x.cuffs(0, 0, 0), BAD);
            is("n 7 is named first", x.cuffs(0, 0, 7), BAD);
        }
        is("none came", x.count(1), 0);
        x.row(0, BYTES, 60);
        is("from a ROW of bytes", x.cuffs(0, 0, 1), 1);
    }

    private static void fromAShelfThatHoldsNothing() {
        says(4, "a SHELF that holds nothing is missing)");
        WithOneHand x = new WithOneHand();
        for (int shelf = 0; shelf <= 5; shelf++) is("cuffs(" + shelf + ", 0, 6)", x.cuffs(shelf, 0, 6), 0);
        x.row(0, SHORTS, 3);
        x.keep(0, -1);
        is("from what holds nothing again", x.cuffs(0, 0, 1), 0);
        is("n 0 is named first", x.cuffs(0, 0, 0), BAD);
    }

    private static void isCuff(WithOneHand x, int cuff, int starch, int off, int hand) {
        is("STARCH of cuff " + cuff, x.of(cuff, 2), starch);
        is("OFF of cuff " + cuff, x.of(cuff, 3), off);
        is("HAND of cuff " + cuff, x.of(cuff, 4), hand);
    }

    private static void whatComesByThrees() {
        says(4, "CUFFS FROM A ROW of bytes, from a place on: by threes STARCH, OFF, HAND: n of them;");
        WithOneHand x = new WithOneHand();
        Due.lays(x, 0, BYTES, 1, 2, 0, 9, 9, 1, 0, 0, 0, 4, 5, 1);
        is("cuffs(0, 0, 3)", x.cuffs(0, 0, 3), 3);
        isCuff(x, 0, 1, 2, 0);
        isCuff(x, 1, 9, 9, 1);
        isCuff(x, 2, 0, 0, 0);
        is("cuffs(0, 4, 1): 9, 1, 0", x.cuffs(0, 4, 1), 1);
        isCuff(x, 3, 9, 1, 0);
        is("cuffs(0, 9, 1)", x.cuffs(0, 9, 1), 1);
        isCuff(x, 4, 4, 5, 1);
        is("changes", x.count(4), 0);
    }

    private static void theRowIsMissing() {
        says(4, "it ends where the row is missing");
        WithOneHand x = new WithOneHand();
        is("cuffs(0, 0, 1)", x.cuffs(0, 0, 1), 0);
        is("cuffs(5, 59, 6)", x.cuffs(5, 59, 6), 0);
        is("cuffs(0, -1, 1)", x.cuffs(0, -1, 1), 0);
        is("none came", x.count(1), 0);
    }

    private static void theRowEnds() {
        says(4, "ends (within a three, too)");
        int[][] cases = {{0, 0, 0}, {1, 0, 0}, {2, 0, 0}, {3, 0, 1}, {4, 0, 1}, {5, 0, 1}, {6, 0, 2}, {6, 1, 1},
            {6, 2, 1}, {6, 3, 1}, {6, 4, 0}, {6, 5, 0}, {6, 6, 0}, {6, 7, 0}, {6, MAX, 0}, {6, MAX - 2, 0}, {6, -1, 0},
            {6, -3, 0}, {6, MIN, 0}, {60, 57, 1}, {60, 58, 0}, {60, 54, 2}, {60, 60, 0}};
        for (int[] c : cases) {
            WithOneHand x = new WithOneHand();
            x.row(0, BYTES, c[0]);
            is("of " + c[0] + " bytes from " + c[1] + " on", x.cuffs(0, c[1], 6), c[2]);
            is("so many came", x.count(1), c[2]);
        }
    }

    private static void oneIsNotSo() {
        says(4, "one is not so");
        long[][] notSo = {{10, 0, 0}, {-1, 0, 0}, {127, 0, 0}, {-128, 0, 0}, {0, 10, 0}, {0, -1, 0}, {0, 0, 2},
            {0, 0, -1}};
        for (long[] three : notSo) {
            for (int ahead = 0; ahead <= 2; ahead++) {
                WithOneHand x = new WithOneHand();
                x.row(0, BYTES, 18);
                for (int i = 0; i < 3; i++) x.put(0, 3 * ahead + i, three[i]);
                is(three[0] + ", " + three[1] + ", " + three[2] + " behind " + ahead, x.cuffs(0, 0, 6), ahead);
                is("those ahead came", x.count(1), ahead);
            }
        }
        WithOneHand x = new WithOneHand();
        Due.lays(x, 0, BYTES, 9, 9, 1);
        is("the most of each", x.cuffs(0, 0, 1), 1);
    }

    private static void cuffsAreFull() {
        says(4, "or CUFFS are FULL: those ahead came");
        for (int there = 0; there <= 6; there++) {
            WithOneHand x = new WithOneHand();
            for (int i = 0; i < there; i++) x.cuff(1, 1);
            x.row(0, BYTES, 60);
            is("where " + there + " are", x.cuffs(0, 0, 6), 6 - there);
            is("cuffs", x.count(1), 6);
            is("once more", x.cuffs(0, 0, 6), 0);
        }
    }

    private static void likelyAndLookOfASpot() {
        says(5, "LIKELY (1 .. 99), LOOK (1 .. 99 seconds)");
        WithOneHand x = new WithOneHand();
        for (int v : new int[] {0, -1, 100, MIN, MAX}) {
            is("spot(" + v + ", 1)", x.spot(v, 1), BAD);
            is("spot(1, " + v + ")", x.spot(1, v), BAD);
        }
        is("none came", x.count(2), 0);
        is("spot(1, 99)", x.spot(1, 99), 0);
        is("spot(99, 1)", x.spot(99, 1), 1);
        is("LIKELY of spot 0", x.of(0, 11), 1);
        is("LOOK of spot 0", x.of(0, 12), 99);
        is("LIKELY of spot 1", x.of(1, 11), 99);
        is("LOOK of spot 1", x.of(1, 12), 1);
    }

    private static void spotsAsTheyCome() {
        says(5, "SPOTS 0 .. 7 where it may have rolled, as they come");
        WithOneHand x = new WithOneHand();
        for (int i = 0; i <= 7; i++) {
            is("spot " + i + " is not there", x.of(i, 11), BAD);
            is("spot " + i, x.spot(99 - i, 1 + i), i);
            is("spots", x.count(2), i + 1);
        }
        for (int i = 0; i <= 7; i++) {
            is("LIKELY of spot " + i, x.of(i, 11), 99 - i);
            is("LOOK of spot " + i, x.of(i, 12), 1 + i);
        }
    }

    private static void eightSpots() {
        says(5, "A SPOT: its number. BAD, FULL: 8.");
        WithOneHand x = new WithOneHand();
        for (int i = 0; i < 7; i++) x.spot(1, 1);
        is("the eighth", x.spot(1, 1), 7);
        is("the ninth", x.spot(1, 1), FULL);
        is("the tenth", x.spot(99, 99), FULL);
        is("one that is BAD", x.spot(0, 1), BAD);
        is("spots", x.count(2), 8);
        is("spot 7", x.of(7, 11), 1);
        is("spot 8", x.of(8, 11), BAD);
    }
}
