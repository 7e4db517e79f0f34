/** Boundary cases of promises 33 to 42: acts, shelves, count. */
final class ShelfEdges extends Edge {
    private ShelfEdges() { }

    static void all() {
        kindsOfBodies();
        fiftyBodies();
        noSuchHole();
        intsThatWrap();
        nextKindAbove();
        numberOfTheHole();
        theFirst24();
        iOfTrace();
        keepsNothing();
        keepsAHole();
        sizeOfARow();
        aRowOfZeros();
        sortOfARow();
        lowestBits();
        putRefused();
        elementRefused();
        shiftRefused();
        shiftPlaces();
        asTheyWereBefore();
        takenFor();
        takenRefused();
        counts();
        ranInTheLatestAct();
    }

    private static final int[] NO_SHELVES = {-1, 6, MIN, MAX};

    private static void kindsOfBodies() {
        says(33, "A HOLE of a KIND (0 .. 7) is kept: its number.");
        WithOneHand x = new WithOneHand();
        for (int kind : new int[] {-1, 8, 9, MIN, MAX}) is("body(" + kind + ")", x.body(kind), BAD);
        is("bodies", x.count(5), 0);
        for (int kind = 0; kind <= 7; kind++) is("body(" + kind + ")", x.body(kind), kind);
        for (int kind = 0; kind <= 7; kind++) {
            x.keep(0, kind);
            is("its kind", x.taken(0, 0), kind);
        }
    }

    private static void fiftyBodies() {
        says(33, "HOLES' ways are kept by call as BODIES 0 .. 49");
        WithOneHand x = new WithOneHand();
        for (int i = 0; i <= 49; i++) {
            is("act of none", x.act(i, 0, 5), 0);
            is("body " + i, x.body(0), i);
            is("bodies", x.count(5), i + 1);
        }
        says(33, "BAD, FULL.");
        is("the 51st", x.body(0), FULL);
        is("the 52nd", x.body(7), FULL);
        is("one that is BAD", x.body(8), BAD);
        is("bodies", x.count(5), 50);
        is("holds of 49", x.act(49, 0, 5), 54);
        is("holds of 50", x.act(50, 0, 5), 0);
    }

    private static void noSuchHole() {
        says(34, "An ACT (0 .. 3) of a HOLE with x. 0, and no TRACE then: no such HOLE, ACT.");
        int[][] none = {{-1, 0}, {2, 0}, {50, 0}, {0, -1}, {0, 4}, {1, 4}, {MIN, 0}, {MAX, 0}, {0, MIN}, {0, MAX}};
        for (int[] n : none) {
            WithOneHand x = new WithOneHand();
            is("act of no bodies", x.act(n[0], n[1], 9), 0);
            x.body(0);
            x.body(1);
            is("holds", x.act(1, 0, 9), 13);
            is("a TRACE", x.trace(1), 1);
            is("act(" + n[0] + ", " + n[1] + ", 9)", x.act(n[0], n[1], 9), 0);
            is("no TRACE", x.trace(0), BAD);
            is("none ran", x.count(6), 0);
            is("bodies", x.count(5), 2);
        }
        WithOneHand x = new WithOneHand();
        x.body(0);
        int[] due = {9, 18, 9, 17};
        for (int act = 0; act <= 3; act++) is("act(0, " + act + ", 9)", x.act(0, act, 9), due[act]);
    }

    private static void intsThatWrap() {
        says(34, "ACTS with x (an int that wraps)");
        WithOneHand x = new WithOneHand();
        for (int kind = 0; kind < 8; kind++) x.body(kind);
        x.body(0);
        is("holds of 8: MAX + 8", x.act(8, 0, MAX), MIN + 7);
        is("gives of 0: MAX * 2", x.act(0, 1, MAX), -2);
        is("gives of 0: MIN * 2", x.act(0, 1, MIN), 0);
        is("holds of 1: MAX + 1 + 3", x.act(1, 0, MAX), MIN + 3);
        is("gives of 2: -((MIN + 2) * 2)", x.act(2, 1, MIN), -4);
        is("gives of 2: -((2 to the 30, less 2, and 2) * 2)", x.act(2, 1, (1 << 30) - 2), MIN);
        is("gives of 3: x + 1 is MIN", x.act(3, 1, MAX), -6);
        is("drops of 3: (MAX ^ 3) * 3", x.act(3, 2, MAX), (int) ((MAX - 3L) * 3));
        is("holds of 6: (MAX + 6) * 2", x.act(6, 0, MAX), 10);
        is("tells of 0: MIN * 2 - 1", x.act(0, 3, MIN), -1);
        // (MAX + 4 + 3) * 2 is 12, and drops(1) is (1 ^ 4) - (2 + 4 + 3).
        is("tells of 4", x.act(4, 3, MAX), 12 + 4);
        int[] xs = {MIN, MIN + 1, -1, 0, 1, MAX - 1, MAX};
        for (int kind = 0; kind < 8; kind++) {
            for (int act = 0; act < 4; act++) {
                Acts.Hole hole = Acts.of(kind, kind);
                for (int v : xs) is("act " + act + " of " + kind + ", " + v, x.act(kind, act, v), hole.acts(act, v));
            }
        }
    }

    private static void nextKindAbove() {
        says(34, "holds(..) and so on: the body of its own KIND, or of the next KIND above that has one; super: "
            + "from the KIND above the body's on.");
        int[][][] traces = {{{1}, {10, 1}, {11}, {2, 10, 1, 11}}, {{20, 1}, {10, 20, 1}, {11}, {2, 10, 20, 1, 11}},
            {{1}, {30, 10, 1}, {11}, {2, 30, 10, 1, 11}}, {{1}, {41, 30, 10, 1}, {40, 11}, {2, 41, 30, 10, 1, 40, 11}},
            {{20, 1}, {10, 20, 1}, {50, 11, 20, 1}, {2, 10, 20, 1, 50, 11, 20, 1}},
            {{1}, {41, 30, 10, 1}, {40, 11}, {60, 2, 41, 30, 10, 1, 40, 11}},
            {{70, 1}, {10, 70, 1}, {11}, {2, 10, 70, 1, 11}},
            {{20, 1}, {80, 10, 20, 1, 50, 11, 20, 1}, {50, 11, 20, 1},
                {81, 2, 80, 10, 20, 1, 50, 11, 20, 1, 50, 11, 20, 1}}};
        WithOneHand x = new WithOneHand();
        for (int kind = 0; kind < 8; kind++) x.body(kind);
        for (int kind = 0; kind < 8; kind++) {
            for (int act = 0; act < 4; act++) {
                x.act(kind, act, 5);
                int[] due = traces[kind][act];
                is("ran in act(" + kind + ", " + act + ", 5)", x.count(6), due.length);
                for (int i = 0; i < due.length; i++) is("trace of " + kind + ", " + act, x.trace(i), due[i]);
                is("trace of " + kind + ", " + act + ", behind", x.trace(due.length), BAD);
            }
        }
    }

    private static void numberOfTheHole() {
        says(34, "n its number.");
        WithOneHand x = new WithOneHand();
        for (int i = 0; i < 50; i++) x.body(i == 0 || i == 49 ? 0 : i % 8);
        is("holds of 0", x.act(0, 0, 100), 100);
        is("drops of 0", x.act(0, 2, 100), 100);
        is("holds of 49", x.act(49, 0, 100), 149);
        is("drops of 49", x.act(49, 2, 100), 100 ^ 49);
        is("holds of a bar, 41", x.act(41, 0, 100), 144);
    }

    /** No act has more than 14 bodies; those are kept, as the first 24 are. */
    private static void theFirst24() {
        says(35, "THE TRACE: numbers of the bodies that ran in the latest act(), as they began; the first 24 are "
            + "kept.");
        WithOneHand x = new WithOneHand();
        x.body(7);
        x.act(0, 3, 1);
        int[] due = {81, 2, 80, 10, 20, 1, 50, 11, 20, 1, 50, 11, 20, 1};
        for (int i = 0; i < due.length; i++) is("trace(" + i + ")", x.trace(i), due[i]);
        for (int i = due.length; i < 30; i++) is("trace(" + i + ")", x.trace(i), BAD);
        x.act(0, 0, 1);
        is("of the latest: trace(0)", x.trace(0), 20);
        is("of the latest: trace(1)", x.trace(1), 1);
        is("of the latest: trace(2)", x.trace(2), BAD);
        is("the other calls have none", x.body(0), 1);
        is("trace(0) still", x.trace(0), 20);
    }

    private static void iOfTrace() {
        says(35, "THE TRACE's i-th body. BAD.");
        WithOneHand x = new WithOneHand();
        for (int i : new int[] {-1, 0, 1, 23, 24, MIN, MAX}) is("trace(" + i + ") at first", x.trace(i), BAD);
        x.body(0);
        x.act(0, 1, 1);
        is("trace(0)", x.trace(0), 10);
        is("trace(1)", x.trace(1), 1);
        for (int i : new int[] {-1, 2, 23, 24, MIN, MAX}) is("trace(" + i + ")", x.trace(i), BAD);
    }

    private static void keepsNothing() {
        says(36, "A SHELF holds nothing (body -1), or a HOLE: 1. BAD.");
        WithOneHand x = new WithOneHand();
        for (int shelf : NO_SHELVES) is("keep(" + shelf + ", -1)", x.keep(shelf, -1), BAD);
        for (int body : new int[] {-2, 0, 1, 49, 50, MIN, MAX}) is("keep(0, " + body + ")", x.keep(0, body), BAD);
        for (int shelf = 0; shelf <= 5; shelf++) {
            is("keep(" + shelf + ", -1)", x.keep(shelf, -1), 1);
            x.row(shelf, INTS, 1);
            is("keep(" + shelf + ", -1) behind a ROW", x.keep(shelf, -1), 1);
            is("nothing is there", x.put(shelf, 0, 1), MISSING);
        }
    }

    private static void keepsAHole() {
        says(36, "SHELVES 0 .. 5 each hold nothing (at first), a HOLE (a BODY), or a ROW");
        WithOneHand x = new WithOneHand();
        for (int i = 0; i < 50; i++) x.body(i % 8);
        for (int shelf = 0; shelf <= 5; shelf++) is("keep(" + shelf + ", 49)", x.keep(shelf, 49 - shelf), 1);
        for (int shelf = 0; shelf <= 5; shelf++) is("its kind", x.taken(shelf, 0), (49 - shelf) % 8);
        is("keep(0, 50)", x.keep(0, 50), BAD);
        is("keep(0, -2)", x.keep(0, -2), BAD);
        for (int shelf : NO_SHELVES) is("keep(" + shelf + ", 0)", x.keep(shelf, 0), BAD);
        is("its kind still", x.taken(0, 0), 1);
        is("keep(0, 0)", x.keep(0, 0), 1);
        is("the first one's kind", x.taken(0, 0), 0);
    }

    private static void sizeOfARow() {
        says(37, "A SHELF holds a ROW: 1. BAD (sort, n above 60); -14.");
        WithOneHand x = new WithOneHand();
        for (int n : new int[] {61, 62, MAX}) is("row(0, 0, " + n + ")", x.row(0, 0, n), BAD);
        for (int n : new int[] {-1, -2, MIN}) is("row(0, 0, " + n + ")", x.row(0, 0, n), SIZE_BELOW_0);
        for (int sort : new int[] {-1, 5, MIN, MAX}) {
            is("row(0, " + sort + ", 1)", x.row(0, sort, 1), BAD);
            is("BAD is named first", x.row(0, sort, -1), BAD);
        }
        for (int shelf : NO_SHELVES) {
            is("row(" + shelf + ", 0, 1)", x.row(shelf, 0, 1), BAD);
            is("BAD is named first", x.row(shelf, 0, -1), BAD);
        }
        is("nothing is there", x.put(0, 0, 1), MISSING);
        is("row(0, 0, 0)", x.row(0, 0, 0), 1);
        is("of no elements", x.put(0, 0, 1), NO_PLACE);
        is("row(0, 0, 60)", x.row(0, 0, 60), 1);
        is("of 60 elements", x.put(0, 59, 1), 1);
        is("of 60 elements, behind", x.put(0, 60, 1), NO_PLACE);
        is("row(0, 0, -1)", x.row(0, 0, -1), SIZE_BELOW_0);
        is("it stays", x.element(0, 59), 1);
    }

    private static void aRowOfZeros() {
        says(37, "of 0 .. 60 elements, 0 at first (false)");
        for (int sort = BYTES; sort <= BOOLEANS; sort++) {
            WithOneHand x = new WithOneHand();
            x.row(3, sort, 60);
            for (int i = 0; i < 60; i++) is("element(3, " + i + ")", x.element(3, i), 0);
            for (int i = 0; i < 60; i++) is("put(3, " + i + ", 1)", x.put(3, i, 1), 1);
            for (int i = 0; i < 60; i++) is("element(3, " + i + ")", x.element(3, i), 1);
            x.row(3, sort, 60);
            for (int i = 0; i < 60; i++) is("element(3, " + i + ") of a new one", x.element(3, i), 0);
        }
    }

    private static void sortOfARow() {
        says(37, "or a ROW: of 0 bytes, 1 shorts, 2 ints, 3 longs, 4 booleans");
        WithOneHand x = new WithOneHand();
        long[] due = {-1, -1, -1, Long.MAX_VALUE, 1};
        for (int sort = BYTES; sort <= BOOLEANS; sort++) {
            is("row(" + sort + ", " + sort + ", 1)", x.row(sort, sort, 1), 1);
            is("put of the most", x.put(sort, 0, Long.MAX_VALUE), 1);
            is("element of sort " + sort, x.element(sort, 0), due[sort]);
        }
    }

    private static void lowestBits() {
        says(38, "what is put in keeps its lowest bits (a boolean: whether it is not 0; 1 or 0)");
        WithOneHand x = new WithOneHand();
        for (int sort = BYTES; sort <= BOOLEANS; sort++) x.row(sort, sort, 1);
        long[][] cases = {{127, 127, 127, 127, 127, 1}, {128, -128, 128, 128, 128, 1}, {255, -1, 255, 255, 255, 1},
            {256, 0, 256, 256, 256, 1}, {-128, -128, -128, -128, -128, 1}, {-129, 127, -129, -129, -129, 1},
            {32767, -1, 32767, 32767, 32767, 1}, {32768, 0, -32768, 32768, 32768, 1}, {65536, 0, 0, 65536, 65536, 1},
            {-32769, -1, 32767, -32769, -32769, 1}, {MAX, -1, -1, MAX, MAX, 1},
            {1L << 31, 0, 0, MIN, 1L << 31, 1}, {1L << 32, 0, 0, 0, 1L << 32, 1}, {MIN - 1L, -1, -1, MAX, MIN - 1L, 1},
            {Long.MIN_VALUE, 0, 0, 0, Long.MIN_VALUE, 1}, {Long.MAX_VALUE, -1, -1, -1, Long.MAX_VALUE, 1},
            {-1, -1, -1, -1, -1, 1}, {2, 2, 2, 2, 2, 1}, {0, 0, 0, 0, 0, 0}};
        for (long[] c : cases) {
            for (int sort = BYTES; sort <= BOOLEANS; sort++) {
                is("put of " + c[0], x.put(sort, 0, c[0]), 1);
                is(c[0] + " in sort " + sort, x.element(sort, 0), c[sort + 1]);
            }
        }
    }

    private static void putRefused() {
        says(38, "Element i of a ROW becomes v: 1. BAD, -11, -12, -13.");
        WithOneHand x = new WithOneHand();
        for (int shelf : NO_SHELVES) is("put(" + shelf + ", 0, 1)", x.put(shelf, 0, 1), BAD);
        for (int i : new int[] {0, -1, 60}) is("nothing, at " + i, x.put(0, i, 1), MISSING);
        x.body(0);
        x.keep(0, 0);
        for (int i : new int[] {0, -1, 60}) is("a HOLE, at " + i, x.put(0, i, 1), OTHER_KIND);
        for (int n : new int[] {0, 1, 2, 59, 60}) {
            x.row(0, LONGS, n);
            for (int i : new int[] {-1, n, n + 1, 61, MIN, MAX}) is("of " + n + ", at " + i, x.put(0, i, 1), NO_PLACE);
            if (n == 0) continue;
            is("of " + n + ", the first", x.put(0, 0, 7), 1);
            is("of " + n + ", the last", x.put(0, n - 1, 8), 1);
            is("the last is", x.element(0, n - 1), 8);
        }
    }

    private static void elementRefused() {
        says(39, "Element i of a ROW; Long.MIN_VALUE: BAD, -11 to -13.");
        WithOneHand x = new WithOneHand();
        for (int shelf : NO_SHELVES) is("element(" + shelf + ", 0)", x.element(shelf, 0), REFUSED);
        is("nothing", x.element(0, 0), REFUSED);
        x.body(0);
        x.keep(0, 0);
        is("a HOLE", x.element(0, 0), REFUSED);
        for (int n : new int[] {0, 1, 2, 59, 60}) {
            x.row(0, INTS, n);
            for (int i : new int[] {-1, n, n + 1, 61, MIN, MAX}) is("of " + n + ", at " + i, x.element(0, i), REFUSED);
            for (int i = 0; i < n; i++) is("of " + n + ", at " + i, x.element(0, i), 0);
        }
        x.keep(0, 0);
        is("a HOLE behind a ROW", x.element(0, 0), REFUSED);
        x.row(0, INTS, 1);
        x.keep(0, -1);
        is("nothing behind a ROW", x.element(0, 0), REFUSED);
    }

    private static void shiftRefused() {
        says(40, "BAD, -11 (either), -12 (no ROWS, or of unlike sorts), -13.");
        WithOneHand x = new WithOneHand();
        x.body(0);
        x.keep(1, 0);
        // 0 nothing, 1 a HOLE, 2 bytes, 3 shorts, 4 bytes, 5 booleans.
        x.row(2, BYTES, 3);
        x.row(3, SHORTS, 3);
        x.row(4, BYTES, 3);
        x.row(5, BOOLEANS, 3);
        for (int shelf : NO_SHELVES) {
            is("shift(" + shelf + ", 0, 2, 0, 1)", x.shift(shelf, 0, 2, 0, 1), BAD);
            is("shift(2, 0, " + shelf + ", 0, 1)", x.shift(2, 0, shelf, 0, 1), BAD);
            is("BAD is named first", x.shift(0, 0, shelf, 0, 1), BAD);
            is("BAD is named first, too", x.shift(shelf, 0, 0, 0, 1), BAD);
        }
        for (int n : new int[] {0, 1, -1, 9}) {
            for (int one = 0; one <= 5; one++) {
                is("nothing to " + one, x.shift(0, 0, one, 0, n), MISSING);
                is(one + " to nothing", x.shift(one, 0, 0, 0, n), MISSING);
                if (one == 0) continue;
                is("a HOLE to " + one, x.shift(1, 0, one, 0, n), OTHER_KIND);
                is(one + " to a HOLE", x.shift(one, 0, 1, 0, n), OTHER_KIND);
            }
            is("bytes to shorts", x.shift(2, 0, 3, 0, n), OTHER_KIND);
            is("shorts to bytes", x.shift(3, 0, 2, 0, n), OTHER_KIND);
            is("bytes to booleans", x.shift(2, 0, 5, 0, n), OTHER_KIND);
            is("booleans to bytes", x.shift(5, 0, 2, 0, n), OTHER_KIND);
        }
        is("bytes to bytes, too many", x.shift(2, 0, 4, 0, 4), NO_PLACE);
        is("bytes to bytes", x.shift(2, 0, 4, 0, 3), 3);
    }

    private static void shiftPlaces() {
        says(40, "-13 a place that is not there");
        WithOneHand x = new WithOneHand();
        Due.lays(x, 0, LONGS, 1, 2, 3, 4);
        Due.lays(x, 1, LONGS, 5, 6, 7);
        int[][] none = {{0, 0, 4}, {0, 1, 3}, {2, 0, 3}, {4, 0, 1}, {0, 3, 1}, {-1, 0, 1}, {0, -1, 1}, {5, 0, 0},
            {0, 4, 0}, {-1, 0, 0}, {0, -1, 0}, {0, 0, -1}, {MIN, 0, 1}, {0, MIN, 1}, {0, 0, MIN}, {MAX, 0, 1},
            {0, MAX, 1}, {0, 0, MAX}, {1, 1, MAX}, {MAX, MAX, MAX}, {MIN, MIN, MIN}, {MAX, 0, MAX}, {4, 3, -1}};
        for (int[] c : none) {
            is("shift of " + c[0] + ", " + c[1] + ", " + c[2], x.shift(0, c[0], 1, c[1], c[2]), NO_PLACE);
        }
        Due.holds("from", x, 0, 1, 2, 3, 4);
        Due.holds("to", x, 1, 5, 6, 7);
        is("none from the end to the end", x.shift(0, 4, 1, 3, 0), 0);
        is("none from the first to the first", x.shift(0, 0, 1, 0, 0), 0);
        Due.holds("to", x, 1, 5, 6, 7);
        is("the last to the last", x.shift(0, 3, 1, 2, 1), 1);
        Due.holds("to", x, 1, 5, 6, 4);
        is("the most", x.shift(0, 1, 1, 0, 3), 3);
        Due.holds("to", x, 1, 2, 3, 4);
        x.row(2, LONGS, 0);
        is("none from none", x.shift(2, 0, 2, 0, 0), 0);
        is("one from none", x.shift(2, 0, 0, 0, 1), NO_PLACE);
        x.row(3, LONGS, 60);
        x.row(4, LONGS, 60);
        x.put(3, 59, 9);
        is("sixty", x.shift(3, 0, 4, 0, 60), 60);
        is("the sixtieth", x.element(4, 59), 9);
        is("sixty-one", x.shift(3, 0, 4, 0, 61), NO_PLACE);
    }

    private static void asTheyWereBefore() {
        says(40, "(or the same) from j on, as they all were before: n.");
        WithOneHand x = new WithOneHand();
        Due.lays(x, 0, INTS, 1, 2, 3, 4, 5, 6);
        is("one up", x.shift(0, 0, 0, 1, 5), 5);
        Due.holds("one up", x, 0, 1, 1, 2, 3, 4, 5);
        is("one down", x.shift(0, 1, 0, 0, 5), 5);
        Due.holds("one down", x, 0, 1, 2, 3, 4, 5, 5);
        is("two up", x.shift(0, 0, 0, 2, 4), 4);
        Due.holds("two up", x, 0, 1, 2, 1, 2, 3, 4);
        is("in place", x.shift(0, 0, 0, 0, 6), 6);
        Due.holds("in place", x, 0, 1, 2, 1, 2, 3, 4);
        is("apart", x.shift(0, 4, 0, 0, 2), 2);
        Due.holds("apart", x, 0, 3, 4, 1, 2, 3, 4);
    }

    private static void takenFor() {
        says(41, "What a SHELF holds, taken for a HOLE of KIND k (0 .. 7), or under it: its KIND.");
        String[] under = {"0", "01", "02", "023", "014", "0235", "06", "0147"};
        WithOneHand x = new WithOneHand();
        for (int kind = 0; kind <= 7; kind++) {
            x.body(kind);
            x.keep(5, kind);
            for (int k = 0; k <= 7; k++) {
                boolean isSuch = under[kind].indexOf('0' + k) >= 0;
                is(kind + " for " + k, x.taken(5, k), isSuch ? kind : OTHER_KIND);
            }
        }
    }

    private static void takenRefused() {
        says(41, "its KIND. BAD, -11, -12.");
        WithOneHand x = new WithOneHand();
        x.body(0);
        for (int shelf : NO_SHELVES) is("taken(" + shelf + ", 0)", x.taken(shelf, 0), BAD);
        for (int k : new int[] {-1, 8, MIN, MAX}) is("taken(0, " + k + ")", x.taken(0, k), BAD);
        for (int k = 0; k <= 7; k++) is("nothing for " + k, x.taken(0, k), MISSING);
        for (int sort = BYTES; sort <= BOOLEANS; sort++) {
            x.row(0, sort, 1);
            for (int k = 0; k <= 7; k++) is("a ROW for " + k, x.taken(0, k), OTHER_KIND);
            for (int k : new int[] {-1, 8}) is("BAD is named first", x.taken(0, k), BAD);
        }
        x.keep(0, 0);
        is("a HOLE for 0", x.taken(0, 0), 0);
        is("a HOLE for 1", x.taken(0, 1), OTHER_KIND);
    }

    private static void counts() {
        says(42, "How many: 0 LINKS, 1 CUFFS, 2 SPOTS, 3 bytes on THE TAPE, 4 changes that may be UNDONE, 5 BODIES");
        WithOneHand x = new WithOneHand();
        for (int what = 0; what <= 6; what++) is("count(" + what + ") at first", x.count(what), 0);
        x.link(1, 0);
        for (int i = 0; i < 2; i++) x.cuff(0, 0);
        for (int i = 0; i < 3; i++) x.spot(1, 1);
        for (int i = 0; i < 4; i++) x.feed('x');
        for (int i = 1; i <= 6; i++) x.mend(0, 3, i);
        x.undo();
        for (int i = 0; i < 6; i++) x.body(7);
        x.act(0, 0, 1);
        int[] due = {1, 2, 3, 4, 5, 6, 2};
        for (int what = 0; what <= 6; what++) is("count(" + what + ")", x.count(what), due[what]);
    }

    private static void ranInTheLatestAct() {
        says(42, "6 bodies that ran in the latest act() (all, kept or not). BAD.");
        WithOneHand x = new WithOneHand();
        for (int what : new int[] {-1, 7, 8, MIN, MAX}) is("count(" + what + ")", x.count(what), BAD);
        x.body(7);
        int[] due = {2, 8, 4, 14};
        for (int act = 0; act <= 3; act++) {
            x.act(0, act, 1);
            is("count(6) of act " + act, x.count(6), due[act]);
        }
        x.act(0, 4, 1);
        is("count(6) of no act", x.count(6), 0);
    }
}
