import java.util.Arrays;

/**
 * Cuff links put into cuffs by the hand on the other side. The document ../shared/DOC.md says what each call
 * answers; its words in capitals stand here as names. All rows are made in the constructor and used again, so
 * that a call makes no object.
 */
public final class WithOneHand {
    public static final int BAD = -1, NOT = -2, FULL = -3, STATE = -5, VOID = -2000000000;

    private static final int MISSING = -11, OTHER_KIND = -12, NO_PLACE = -13, SIZE_BELOW_0 = -14;
    private static final long REFUSED = 1L << 63;

    private static final int MOST_LINKS = 6, MOST_CUFFS = 6, MOST_SPOTS = 8, MOST_SHELVES = 6;
    private static final int MOST_BYTES = 120, MOST_HOLES = 50, MOST_CHANGES = 40;
    private static final int MOST_SECONDS = 999, MOST_DONE = 99, MOST_OF_A_ROW = 60;
    private static final int SIDES_OF_DROPS = 12, TRIES_THAT_COUNT = 6, TRIES_AN_EVENING = 20;

    // The numbers of mend(), as it counts them, with what each may be.
    private static final int HARD = 0, GIVES = 1, STARCH = 2, OFF = 3, HAND = 4, GAP = 5, SKILL = 6, WIDE = 7;
    private static final int DONE = 8, DROPS = 9, FINDS = 10, LIKELY = 11, LOOK = 12;
    private static final int[] LEAST = {1, 0, 0, 0, 0, 0, 0, 0, 0, 0, 1, 1, 1};
    private static final int[] MOST = {9, 9, 9, 9, 1, 99, 9, 99, 99, 11, 99, 99, 99};

    // What LED tells, as led() counts it.
    private static final int SECONDS_LED = 0, PUT_LED = 1, OUT_LED = 2, NIGHTS_LED = 3;

    private final int[][] numbers = new int[LOOK + 1][MOST_SPOTS];
    private final History history = new History();
    private final Deeds deeds = new Deeds();
    private final Deeds kept = new Deeds();
    private final int[] keptDone = new int[2];
    private final Pairs pairs = new Pairs();
    private final Turns turns = new Turns();
    private final Holes holes = new Holes();
    private final Shelf[] shelves = new Shelf[MOST_SHELVES];
    private final int[] looked = new int[MOST_SPOTS];
    private Law ruling = new Law();
    private Law coming = new Law();
    private int linkCount, cuffCount, spotCount;
    private boolean isKept;

    public WithOneHand() {
        numbers[SKILL][0] = 2;
        numbers[SKILL][1] = 8;
        numbers[WIDE][0] = 30;
        numbers[WIDE][1] = 30;
        numbers[FINDS][0] = 20;
        for (int i = 0; i < MOST_SHELVES; i++) shelves[i] = new Shelf();
    }

    // ---- links, cuffs, spots

    public int link(int hard, int gives) {
        if (!canBe(HARD, hard) || !canBe(GIVES, gives)) return BAD;
        if (linkCount >= MOST_LINKS) return FULL;
        numbers[HARD][linkCount] = hard;
        numbers[GIVES][linkCount] = gives;
        return linkCount++;
    }

    public int cuff(int starch, int off) {
        if (!canBe(STARCH, starch) || !canBe(OFF, off)) return BAD;
        if (cuffCount >= MOST_CUFFS) return FULL;
        return addCuff(starch, off, 0);
    }

    public int cuffs(int shelf, int i, int n) {
        if (!isShelf(shelf) || n < 1 || n > MOST_CUFFS) return BAD;
        Shelf from = shelves[shelf];
        if (from.holdsNothing()) return 0;
        if (!from.holdsRowOf(Shelf.BYTES)) return OTHER_KIND;
        int came = 0;
        while (came < n && cameFrom(from, i + 3 * came)) came++;
        return came;
    }

    public int spot(int likely, int look) {
        if (!canBe(LIKELY, likely) || !canBe(LOOK, look)) return BAD;
        if (spotCount >= MOST_SPOTS) return FULL;
        numbers[LIKELY][spotCount] = likely;
        numbers[LOOK][spotCount] = look;
        return spotCount++;
    }

    public int mend(int number, int what, int v) {
        if (!isThere(number, what) || !canBe(what, v)) return BAD;
        int was = numbers[what][number];
        if (was != v) {
            history.note(number, what, was, v);
            numbers[what][number] = v;
        }
        return was;
    }

    public int of(int number, int what) {
        if (what == LOOK + 1) return isCuff(number) ? deeds.linkIn[number] : BAD;
        return isThere(number, what) ? numbers[what][number] : BAD;
    }

    public int feed(int letter) {
        if (letter < 0 || letter > 255) return BAD;
        if (coming.length >= MOST_BYTES) return FULL;
        coming.text[coming.length] = letter;
        coming.length++;
        return coming.length;
    }

    public int law() {
        int fault = coming.faultOfText();
        coming.length = 0;
        if (fault >= 0) return -100 - fault;
        Law before = ruling;
        ruling = coming;
        coming = before;
        return 1;
    }

    // ---- in thought

    public int seconds(int lc, int what) {
        if (!isLinkAndCuff(lc) || what < 0 || what > 3) return BAD;
        int link = lc / 10, cuff = lc % 10;
        switch (what) {
            case 0: return takesNow(link, cuff);
            case 1: return takesBefore(link, cuff);
            case 2: return goesThrough(link, cuff) ? 1 : 0;
            default: return takesAtBest(link, cuff);
        }
    }

    public int best(int cuff) {
        if (!isCuff(cuff)) return BAD;
        int least = NOT, leastSeconds = MOST_SECONDS + 1;
        for (int link = 0; link < linkCount; link++) {
            int takes = takesNow(link, cuff);
            if (takes < leastSeconds) {
                least = link;
                leastSeconds = takes;
            }
        }
        return least;
    }

    public int paired(int n, int cuff) {
        if (n < 0 || n > cuffCount || cuff < -1 || cuff >= n) return BAD;
        if (n > linkCount) return NOT;
        for (int c = 0; c < n; c++) {
            for (int link = 0; link < linkCount; link++) pairs.takes[c][link] = takesNow(link, c);
        }
        pairs.workOut(linkCount, n);
        return cuff < 0 ? pairs.leastSum() : pairs.chosen(cuff);
    }

    public int order(int k) {
        if (k < -2) return BAD;
        int many = bothCount();
        if (k >= many) return NOT;
        for (int c = 0; c < many; c++) {
            turns.hands[c] = numbers[HAND][c];
            for (int more = 0; more < many; more++) turns.takes[c][more] = takesByHand(c, c, numbers[HAND][c], more);
        }
        turns.workOut(many, many);
        if (k >= 0) return turns.chosen(k);
        return k == -1 ? turns.leastSum() : turns.sumOfHardFirst() - turns.leastSum();
    }

    public long dropped(int lc, int part) {
        if (!isLinkAndCuff(lc) || !isPart(part)) return REFUSED;
        int drops = numbers[DROPS][0];
        int sum = SIDES_OF_DROPS * takesNow(lc / 10, lc % 10) + drops * numbers[FINDS][0];
        return inLowestTerms(sum, SIDES_OF_DROPS - drops, part);
    }

    public long by(int lc, int t, int part) {
        if (!isLinkAndCuff(lc) || t < 0 || t > 9999 || !isPart(part)) return REFUSED;
        int takes = takesNow(lc / 10, lc % 10);
        long all = 1, alwaysDropped = 1;
        int end = takes;
        for (int tries = 0; tries < TRIES_THAT_COUNT && end <= t; tries++) {
            all *= SIDES_OF_DROPS;
            alwaysDropped *= numbers[DROPS][0];
            end += numbers[FINDS][0] + takes;
        }
        return inLowestTerms(all - alwaysDropped, all, part);
    }

    public int practice(int lc, int x, int what) {
        if (!isLinkAndCuff(lc) || x < 1 || x > MOST_SECONDS || !isPart(what)) return BAD;
        int link = lc / 10, cuff = lc % 10;
        return what == 0 ? timesMore(link, cuff, x) : leastSkill(link, cuff, x);
    }

    // ---- spots, helpers

    public long search(int k) {
        if (k < -2) return REFUSED;
        if (spotCount == 0 || k >= spotCount) return NOT;
        sortSpots();
        return k >= 0 ? looked[k] : meanOfLooking(spotCount, k + 2);
    }

    public long told(int shelf, int part) {
        if (!isShelf(shelf) || !isPart(part) || !shelves[shelf].holdsRowOf(Shelf.BYTES)) return REFUSED;
        if (spotCount == 0) return NOT;
        return meanOfLooking(spotsFrom(shelves[shelf]), part);
    }

    public int asked(int n, int kt, int what) {
        if (n < 0 || n > bothCount() || kt < 0 || kt > 99999 || !isPart(what)) return BAD;
        int skill = kt / 10000, comes = kt % 10000;
        int begun = 0, waited = comes;
        for (int c = 0; c < n; c++) {
            int helped = takesBySkill(c, c, skill, 0);
            waited += helped;
            begun += begun < comes ? takesNow(c, c) : helped;
        }
        if (what == 0) return begun;
        return waited < begun ? 1 : 0;
    }

    public int two(int one, int other, int what) {
        if (one < 0 || one > 99 || other < 0 || other > 99 || what < 0 || what > 2) return BAD;
        if (linkCount < 2 || cuffCount < 2) return STATE;
        int alone = Math.max(takesAlone(one), takesAlone(other));
        int byHelp = takesHelping(one) + takesHelping(other);
        switch (what) {
            case 0: return alone;
            case 1: return byHelp;
            default: return byHelp < alone ? 1 : 0;
        }
    }

    // ---- told read back, drawn

    public int judge(int shelf, int lc) {
        if (!isShelf(shelf) || !isLinkAndCuff(lc)) return BAD;
        Shelf row = shelves[shelf];
        if (row.refusalAs(Shelf.SHORTS) != 0) return row.refusalAs(Shelf.SHORTS);
        int cuff = lc % 10;
        return firstNotSo(row, lc / 10, cuff, numbers[STARCH][cuff], numbers[HAND][cuff]);
    }

    public int which(int shelf, int cuff) {
        if (!isShelf(shelf) || !isCuff(cuff)) return BAD;
        Shelf row = shelves[shelf];
        if (row.refusalAs(Shelf.SHORTS) != 0) return row.refusalAs(Shelf.SHORTS);
        int bits = 0;
        for (int link = 0; link < linkCount; link++) {
            if (firstNotSo(row, link, cuff, numbers[STARCH][cuff], numbers[HAND][cuff]) == NOT) bits |= 1 << link;
        }
        return bits;
    }

    public int how(int shelf, int lc, int what) {
        if (!isShelf(shelf) || !isLinkAndCuff(lc) || !isPart(what)) return BAD;
        Shelf row = shelves[shelf];
        if (row.refusalAs(Shelf.SHORTS) != 0) return row.refusalAs(Shelf.SHORTS);
        return what == 0 ? leastStarch(row, lc / 10, lc % 10) : handsOf(row, lc / 10, lc % 10);
    }

    public int drawn(int lc, int seed, int n, int what) {
        if (!isLinkAndCuff(lc) || n < 1 || n > 50 || !isPart(what)) return BAD;
        int takes = takesNow(lc / 10, lc % 10);
        int z = seed, passed = 0, left = 0;
        for (int evening = 0; evening < n; evening++) {
            boolean isIn = false;
            for (int tries = 0; tries < TRIES_AN_EVENING && !isIn; tries++) {
                z = z * 1103515245 + 12345;
                isIn = (z >>> 8) % SIDES_OF_DROPS >= numbers[DROPS][0];
                passed += isIn ? takes : takes + numbers[FINDS][0];
            }
            if (!isIn) left++;
        }
        return what == 0 ? passed : left;
    }

    // ---- in deed

    public int puts(int lc) {
        if (!isLinkAndCuff(lc)) return BAD;
        int link = lc / 10, cuff = lc % 10;
        if (deeds.linkIn[cuff] != NOT || deeds.isIn(link)) return STATE;
        int takes = takesNow(link, cuff), hand = numbers[HAND][cuff];
        deeds.linkIn[cuff] = link;
        deeds.ledger[SECONDS_LED] += takes;
        deeds.ledger[PUT_LED]++;
        numbers[DONE][hand] = Math.min(MOST_DONE, numbers[DONE][hand] + 1);
        return takes;
    }

    public int out(int cuff) {
        if (!isCuff(cuff)) return BAD;
        int link = deeds.linkIn[cuff];
        if (link == NOT) return STATE;
        deeds.linkIn[cuff] = NOT;
        deeds.ledger[OUT_LED]++;
        return link;
    }

    public int night() {
        deeds.ledger[NIGHTS_LED]++;
        return deeds.takeAllOut();
    }

    public int led(int what) {
        return what < SECONDS_LED || what > NIGHTS_LED ? BAD : deeds.ledger[what];
    }

    public int image() {
        kept.becomeLike(deeds);
        System.arraycopy(numbers[DONE], 0, keptDone, 0, 2);
        isKept = true;
        return deeds.ledger[SECONDS_LED];
    }

    public int back() {
        if (!isKept) return STATE;
        deeds.becomeLike(kept);
        System.arraycopy(keptDone, 0, numbers[DONE], 0, 2);
        return deeds.ledger[SECONDS_LED];
    }

    public int undo() {
        if (history.made == 0) return STATE;
        history.made--;
        history.undone++;
        int latest = history.made;
        numbers[history.what[latest]][history.number[latest]] = history.was[latest];
        return history.made;
    }

    public int redo() {
        if (history.undone == 0) return STATE;
        int next = history.made;
        numbers[history.what[next]][history.number[next]] = history.became[next];
        history.made++;
        history.undone--;
        return history.undone;
    }

    // ---- acts, shelves

    public int body(int kind) {
        if (!Holes.isKind(kind)) return BAD;
        if (holes.many >= MOST_HOLES) return FULL;
        holes.kinds[holes.many] = kind;
        return holes.many++;
    }

    public int act(int body, int act, int x) {
        return holes.acts(body, act, x);
    }

    public int trace(int i) {
        return i < 0 || i >= holes.ran || i >= Holes.TRACED ? BAD : holes.traced[i];
    }

    public int keep(int shelf, int body) {
        if (!isShelf(shelf) || body < -1 || body >= holes.many) return BAD;
        if (body < 0) shelves[shelf].holdNothing();
        else shelves[shelf].holdHole(body);
        return 1;
    }

    public int row(int shelf, int sort, int n) {
        if (!isShelf(shelf) || !Shelf.isSort(sort) || n > MOST_OF_A_ROW) return BAD;
        if (n < 0) return SIZE_BELOW_0;
        shelves[shelf].holdRow(sort, n);
        return 1;
    }

    public int put(int shelf, int i, long v) {
        if (!isShelf(shelf)) return BAD;
        Shelf row = shelves[shelf];
        if (row.refusalAsRow() != 0) return row.refusalAsRow();
        if (!row.hasPlaces(i, 1)) return NO_PLACE;
        row.elements[i] = row.lowestBits(v);
        return 1;
    }

    public long element(int shelf, int i) {
        if (!isShelf(shelf)) return REFUSED;
        Shelf row = shelves[shelf];
        if (row.refusalAsRow() != 0 || !row.hasPlaces(i, 1)) return REFUSED;
        return row.elements[i];
    }

    public int shift(int shelf, int i, int other, int j, int n) {
        if (!isShelf(shelf) || !isShelf(other)) return BAD;
        Shelf from = shelves[shelf], to = shelves[other];
        if (from.holdsNothing() || to.holdsNothing()) return MISSING;
        if (!from.holdsRow() || !to.holdsRowOf(from.sort)) return OTHER_KIND;
        if (!from.hasPlaces(i, n) || !to.hasPlaces(j, n)) return NO_PLACE;
        System.arraycopy(from.elements, i, to.elements, j, n);
        return n;
    }

    public int taken(int shelf, int k) {
        if (!isShelf(shelf) || !Holes.isKind(k)) return BAD;
        Shelf from = shelves[shelf];
        if (from.holdsNothing()) return MISSING;
        if (from.holdsRow() || !holes.isUnder(from.hole, k)) return OTHER_KIND;
        return holes.kinds[from.hole];
    }

    public int count(int what) {
        switch (what) {
            case 0: return linkCount;
            case 1: return cuffCount;
            case 2: return spotCount;
            case 3: return coming.length;
            case 4: return history.made;
            case 5: return holes.many;
            case 6: return holes.ran;
            default: return BAD;
        }
    }

    // ---- what may be asked for

    private static boolean canBe(int what, int v) {
        return v >= LEAST[what] && v <= MOST[what];
    }

    /** As many as bear the number that mend() calls so; 0, if it calls none so. */
    private int holdersOf(int what) {
        if (what < HARD || what > LOOK) return 0;
        if (what <= GIVES) return linkCount;
        if (what <= GAP) return cuffCount;
        if (what <= DONE) return 2;
        return what <= FINDS ? 1 : spotCount;
    }

    private boolean isThere(int number, int what) {
        return number >= 0 && number < holdersOf(what);
    }

    private boolean isCuff(int cuff) {
        return cuff >= 0 && cuff < cuffCount;
    }

    private boolean isLinkAndCuff(int lc) {
        return lc >= 0 && lc / 10 < linkCount && isCuff(lc % 10);
    }

    private static boolean isShelf(int shelf) {
        return shelf >= 0 && shelf < MOST_SHELVES;
    }

    private static boolean isPart(int part) {
        return part == 0 || part == 1;
    }

    private int bothCount() {
        return Math.min(linkCount, cuffCount);
    }

    // ---- cuffs that come

    private int addCuff(int starch, int off, int hand) {
        numbers[STARCH][cuffCount] = starch;
        numbers[OFF][cuffCount] = off;
        numbers[HAND][cuffCount] = hand;
        numbers[GAP][cuffCount] = 20;
        return cuffCount++;
    }

    private boolean cameFrom(Shelf row, int place) {
        if (cuffCount >= MOST_CUFFS || !row.hasPlaces(place, 3)) return false;
        int starch = (int) row.elements[place];
        int off = (int) row.elements[place + 1];
        int hand = (int) row.elements[place + 2];
        if (!canBe(STARCH, starch) || !canBe(OFF, off) || !canBe(HAND, hand)) return false;
        addCuff(starch, off, hand);
        return true;
    }

    // ---- seconds

    private int takesWith(int link, int cuff, int starch, int skill, int done) {
        int hard = Math.max(0, numbers[HARD][link] - numbers[GIVES][link]);
        int off = numbers[OFF][cuff];
        if (!ruling.isTold()) return Math.max(1, (10 - skill) * hard + starch + 2 * off - done);
        ruling.name(skill, hard, off, starch, done, cuff);
        return Math.max(1, Math.min(MOST_SECONDS, ruling.workedOut()));
    }

    private int takesBySkill(int link, int cuff, int skill, int done) {
        return takesWith(link, cuff, numbers[STARCH][cuff], skill, done);
    }

    /** DONE goes on by so many more; the document holds it at 99 in deed alone. */
    private int takesByHand(int link, int cuff, int hand, int more) {
        return takesWith(link, cuff, numbers[STARCH][cuff], numbers[SKILL][hand], numbers[DONE][hand] + more);
    }

    private int takesNow(int link, int cuff) {
        return takesByHand(link, cuff, numbers[HAND][cuff], 0);
    }

    private int takesBefore(int link, int cuff) {
        int hand = numbers[SKILL][1] > numbers[SKILL][0] ? 1 : 0;
        return Math.max(1, takesByHand(link, cuff, hand, 0) / 2);
    }

    private boolean goesThrough(int link, int cuff) {
        int inCuff = 1 - numbers[HAND][cuff];
        return numbers[WIDE][inCuff] <= numbers[GAP][cuff] + 2 * numbers[GIVES][link];
    }

    private int takesAtBest(int link, int cuff) {
        int now = takesNow(link, cuff);
        return goesThrough(link, cuff) ? Math.min(now, takesBefore(link, cuff)) : now;
    }

    private int timesMore(int link, int cuff, int x) {
        for (int more = 0; more <= MOST_DONE; more++) {
            if (takesByHand(link, cuff, numbers[HAND][cuff], more) <= x) return more;
        }
        return NOT;
    }

    private int leastSkill(int link, int cuff, int x) {
        int done = numbers[DONE][numbers[HAND][cuff]];
        for (int skill = LEAST[SKILL]; skill <= MOST[SKILL]; skill++) {
            if (takesBySkill(link, cuff, skill, done) <= x) return skill;
        }
        return NOT;
    }

    /** One of TWO dresses itself: each CUFF by the HAND that does it. */
    private int takesAlone(int skills) {
        int sum = 0;
        for (int c = 0; c < 2; c++) {
            sum += takesBySkill(c, c, numbers[HAND][c] == 0 ? skills / 10 : skills % 10, 0);
        }
        return sum;
    }

    /** One of TWO helps the other with both. */
    private int takesHelping(int skills) {
        int better = Math.max(skills / 10, skills % 10);
        return takesBySkill(0, 0, better, 0) + takesBySkill(1, 1, better, 0);
    }

    // ---- told read back

    private int firstNotSo(Shelf row, int link, int cuff, int starch, int hand) {
        int skill = numbers[SKILL][hand], done = numbers[DONE][hand];
        for (int i = 0; i < row.size; i++) {
            if (row.elements[i] != takesWith(link, cuff, starch, skill, done + i)) return i;
        }
        return NOT;
    }

    private int leastStarch(Shelf row, int link, int cuff) {
        for (int starch = LEAST[STARCH]; starch <= MOST[STARCH]; starch++) {
            if (firstNotSo(row, link, cuff, starch, numbers[HAND][cuff]) == NOT) return starch;
        }
        return NOT;
    }

    private int handsOf(Shelf row, int link, int cuff) {
        int bits = 0;
        for (int hand = 0; hand < 2; hand++) {
            if (firstNotSo(row, link, cuff, numbers[STARCH][cuff], hand) == NOT) bits |= 1 << hand;
        }
        return bits;
    }

    // ---- spots

    private boolean isSooner(int spot, int than) {
        return numbers[LOOK][spot] * numbers[LIKELY][than] < numbers[LOOK][than] * numbers[LIKELY][spot];
    }

    private void sortSpots() {
        for (int spot = 0; spot < spotCount; spot++) {
            int at = spot;
            for (; at > 0 && isSooner(spot, looked[at - 1]); at--) looked[at] = looked[at - 1];
            looked[at] = spot;
        }
    }

    /** Lays the SPOTS that the row names into looked: how many. What is no SPOT, or told before, ends the order. */
    private int spotsFrom(Shelf row) {
        int many = 0, seen = 0;
        for (int i = 0; i < row.size && many < MOST_SPOTS; i++) {
            int spot = (int) row.elements[i];
            if (spot < 0 || spot >= spotCount || (seen >> spot & 1) != 0) return many;
            seen |= 1 << spot;
            looked[many] = spot;
            many++;
        }
        return many;
    }

    private long meanOfLooking(int many, int part) {
        int clock = 0, seen = 0, all = 0, sum = 0;
        for (int i = 0; i < many; i++) {
            int spot = looked[i];
            clock += numbers[LOOK][spot];
            sum += numbers[LIKELY][spot] * clock;
            seen |= 1 << spot;
        }
        for (int spot = 0; spot < spotCount; spot++) {
            all += numbers[LIKELY][spot];
            if ((seen >> spot & 1) == 0) sum += numbers[LIKELY][spot] * MOST_SECONDS;
        }
        return inLowestTerms(sum, all, part);
    }

    /** Part 0 above, 1 below the line. Euclid's steps for longs are fewer than a hundred. */
    private static long inLowestTerms(long above, long below, int part) {
        long divisor = below, rest = above;
        for (int step = 0; step < 100 && rest != 0; step++) {
            long next = divisor % rest;
            divisor = rest;
            rest = next;
        }
        if (divisor == 0) return REFUSED;
        return part == 0 ? above / divisor : below / divisor;
    }

    /** THE TAPE with the law that comes from it: steps on a stack. One rules while the next one is fed. */
    private static final class Law {
        private static final int NUMBER = '0', NAME = 'a', NEGATED = '~', IF = '?', ENDS = ';';
        private static final int MOST_OPEN = 6, MOST_DIGITS = 4;
        // Levels of parts from E down; an operand binds closest.
        private static final int COMPARED = 2, OPERAND = 5;
        // Seven depths, five levels with a left side waiting at each, and one more.
        private static final int MOST_WAITING = 40;

        // A byte makes one step at most, and the end of the last line one more.
        private final int[] steps = new int[MOST_BYTES + 1];
        private final int[] operands = new int[MOST_BYTES + 1];
        private final int[] stack = new int[MOST_WAITING];
        private final int[] named = new int[6];
        private int size, top, place;
        final int[] text = new int[MOST_BYTES];
        int length;

        boolean isTold() {
            return size > 0;
        }

        /** Turns the text into this law: its FAULT, or -1. */
        int faultOfText() {
            place = 0;
            size = 0;
            boolean goesOn = true;
            for (int line = 0; line <= length && goesOn; line++) {
                if (!readsLine()) return place;
                goesOn = here() == ENDS;
                if (goesOn) place++;
            }
            return place < length ? place : -1;
        }

        private int here() {
            return place >= 0 && place < length && place < text.length ? text[place] : -1;
        }

        private void add(int step, int operand) {
            if (size >= steps.length) return;
            steps[size] = step;
            operands[size] = operand;
            size++;
        }

        private boolean readsLine() {
            if (!readsPart(0, 0)) return false;
            int condition = size;
            boolean isConditional = here() == IF;
            if (isConditional) {
                place++;
                add(IF, 0);
                if (!readsPart(0, 0)) return false;
            }
            add(ENDS, 0);
            if (isConditional && condition < operands.length) operands[condition] = size;
            return true;
        }

        private static int levelOf(int letter) {
            switch (letter) {
                case '|': return 0;
                case '&': return 1;
                case '<': case '=': case '>': return COMPARED;
                case '+': case '-': return 3;
                case '*': case '/': case '%': return 4;
                default: return -1;
            }
        }

        /** Stands at the place of the fault, if it answers false. */
        private boolean readsPart(int level, int open) {
            if (level >= OPERAND) return readsOperand(open);
            if (!readsPart(level + 1, open)) return false;
            for (int i = 0; i < length && levelOf(here()) == level; i++) {
                int sign = here();
                place++;
                if (!readsPart(level + 1, open)) return false;
                add(sign, 0);
                if (level == COMPARED) break;
            }
            return true;
        }

        private boolean readsOperand(int open) {
            int letter = here();
            if (isDigit(letter)) return readsNumber();
            int name = nameOf(letter);
            if (name >= 0) {
                place++;
                add(NAME, name);
                return true;
            }
            if (letter != '(' && letter != '!' && letter != '-' || open >= MOST_OPEN) return false;
            place++;
            if (letter == '(') return readsPart(0, open + 1) && closes();
            if (!readsOperand(open + 1)) return false;
            add(letter == '!' ? '!' : NEGATED, 0);
            return true;
        }

        private boolean closes() {
            if (here() != ')') return false;
            place++;
            return true;
        }

        private static boolean isDigit(int letter) {
            return letter >= '0' && letter <= '9';
        }

        private boolean readsNumber() {
            int number = 0;
            for (int digits = 0; digits < MOST_DIGITS && isDigit(here()); digits++) {
                number = 10 * number + here() - '0';
                place++;
            }
            add(NUMBER, number);
            return true;
        }

        private static int nameOf(int letter) {
            switch (letter) {
                case 'h': return 0;
                case 'l': return 1;
                case 'o': return 2;
                case 's': return 3;
                case 'n': return 4;
                case 'c': return 5;
                default: return -1;
            }
        }

        void name(int h, int l, int o, int s, int n, int c) {
            named[0] = h;
            named[1] = l;
            named[2] = o;
            named[3] = s;
            named[4] = n;
            named[5] = c;
        }

        private void push(int v) {
            if (top < 0 || top >= stack.length) return;
            stack[top] = v;
            top++;
        }

        private int pop() {
            if (top <= 0 || top > stack.length) return 0;
            top--;
            return stack[top];
        }

        /** Ways lead ahead alone: a line whose condition is 0 leads to the next one. */
        int workedOut() {
            top = 0;
            int at = 0;
            for (int i = 0; i < size && at >= 0 && at < size; i++) {
                int step = steps[at], operand = operands[at];
                at++;
                switch (step) {
                    case ENDS: return pop();
                    case IF: at = pop() == 0 ? operand : at; break;
                    case NUMBER: push(operand); break;
                    case NAME: push(operand >= 0 && operand < named.length ? named[operand] : 0); break;
                    case NEGATED: push(-pop()); break;
                    case '!': push(pop() == 0 ? 1 : 0); break;
                    default:
                        int right = pop();
                        push(joined(step, pop(), right));
                }
            }
            return 0;
        }

        private static int joined(int sign, int left, int right) {
            switch (sign) {
                case '|': return left != 0 || right != 0 ? 1 : 0;
                case '&': return left != 0 && right != 0 ? 1 : 0;
                case '<': return left < right ? 1 : 0;
                case '=': return left == right ? 1 : 0;
                case '>': return left > right ? 1 : 0;
                case '+': return left + right;
                case '-': return left - right;
                case '*': return left * right;
                case '/': return right == 0 ? 0 : left / right;
                case '%': return right == 0 ? 0 : left % right;
                default: return 0;
            }
        }
    }

    /** Items (6 at most) chosen one after the other, so that the seconds together are least: over sets of items. */
    private abstract static class Plan {
        static final int MOST_ITEMS = 6;
        private static final int ENDLESS = 1000000;

        final int[][] takes = new int[MOST_ITEMS][MOST_ITEMS];
        /** The least seconds of what is still to come, behind each set. */
        private final int[] least = new int[1 << MOST_ITEMS];
        private int items, choices;

        abstract int takesBehind(int set, int item);

        void workOut(int ofItems, int manyChoices) {
            items = Math.max(0, Math.min(MOST_ITEMS, ofItems));
            choices = Math.max(0, Math.min(items, manyChoices));
            for (int set = (1 << items) - 1; set >= 0; set--) {
                least[set] = Integer.bitCount(set) >= choices ? 0 : sumWith(set, firstBest(set));
            }
        }

        int leastSum() {
            return least[0];
        }

        int manyItems() {
            return items;
        }

        /** The k-th item (from 0), of like plans the first. */
        int chosen(int k) {
            int set = 0, item = -1;
            for (int i = 0; i <= k && i < choices; i++) {
                item = firstBest(set);
                if (item < 0) return item;
                set |= 1 << item;
            }
            return item;
        }

        private int sumWith(int set, int item) {
            return item < 0 ? ENDLESS : takesBehind(set, item) + least[set | 1 << item];
        }

        private int firstBest(int set) {
            int best = -1, bestSum = ENDLESS;
            for (int item = 0; item < items; item++) {
                if ((set >> item & 1) != 0) continue;
                int sum = sumWith(set, item);
                if (sum < bestSum) {
                    best = item;
                    bestSum = sum;
                }
            }
            return best;
        }
    }

    /** PAIRED: the items are LINKS, chosen CUFF by CUFF. */
    private static final class Pairs extends Plan {
        int takesBehind(int set, int item) {
            int cuff = Integer.bitCount(set);
            return cuff < MOST_ITEMS ? takes[cuff][item] : 0;
        }
    }

    /** ORDER: the items are CUFFS; each takes by how many its HAND has done in this order. */
    private static final class Turns extends Plan {
        final int[] hands = new int[MOST_ITEMS];

        int takesBehind(int set, int item) {
            int more = 0;
            for (int c = 0; c < MOST_ITEMS; c++) {
                if ((set >> c & 1) != 0 && hands[c] == hands[item]) more++;
            }
            return more < MOST_ITEMS ? takes[item][more] : 0;
        }

        int sumOfHardFirst() {
            int sum = 0, set = 0;
            for (int i = 0; i < manyItems(); i++) {
                int hardest = hardestOutside(set);
                if (hardest < 0) return sum;
                sum += takesBehind(set, hardest);
                set |= 1 << hardest;
            }
            return sum;
        }

        private int hardestOutside(int set) {
            int hardest = -1;
            for (int c = 0; c < manyItems(); c++) {
                if ((set >> c & 1) == 0 && (hardest < 0 || takes[c][0] > takes[hardest][0])) hardest = c;
            }
            return hardest;
        }
    }

    /** CHANGES: those that may be UNDONE, then those that may be DONE AGAIN. */
    private static final class History {
        final int[] number = new int[MOST_CHANGES];
        final int[] what = new int[MOST_CHANGES];
        final int[] was = new int[MOST_CHANGES];
        final int[] became = new int[MOST_CHANGES];
        int made, undone;

        void note(int ofNumber, int ofWhat, int before, int now) {
            if (made >= MOST_CHANGES) forgetOldest();
            number[made] = ofNumber;
            what[made] = ofWhat;
            was[made] = before;
            became[made] = now;
            made++;
            undone = 0;
        }

        private void forgetOldest() {
            made = MOST_CHANGES - 1;
            System.arraycopy(number, 1, number, 0, made);
            System.arraycopy(what, 1, what, 0, made);
            System.arraycopy(was, 1, was, 0, made);
            System.arraycopy(became, 1, became, 0, made);
        }
    }

    /** What AN IMAGE keeps, but for DONE, which is a number of mend(): which are in, what LED tells. */
    private static final class Deeds {
        final int[] linkIn = new int[MOST_CUFFS];
        final int[] ledger = new int[NIGHTS_LED + 1];

        Deeds() {
            Arrays.fill(linkIn, NOT);
        }

        boolean isIn(int link) {
            for (int c = 0; c < MOST_CUFFS; c++) {
                if (linkIn[c] == link) return true;
            }
            return false;
        }

        int takeAllOut() {
            int many = 0;
            for (int c = 0; c < MOST_CUFFS; c++) {
                if (linkIn[c] != NOT) many++;
                linkIn[c] = NOT;
            }
            return many;
        }

        void becomeLike(Deeds other) {
            System.arraycopy(other.linkIn, 0, linkIn, 0, MOST_CUFFS);
            System.arraycopy(other.ledger, 0, ledger, 0, ledger.length);
        }
    }

    /** A SHELF, with the one row of places that all its ROWS use. */
    private static final class Shelf {
        static final int BYTES = 0, SHORTS = 1, INTS = 2, LONGS = 3, BOOLEANS = 4;
        private static final int NOTHING = -2, HOLE = -1;

        final long[] elements = new long[MOST_OF_A_ROW];
        int sort = NOTHING;
        int size;
        int hole;

        static boolean isSort(int sort) {
            return sort >= BYTES && sort <= BOOLEANS;
        }

        boolean holdsNothing() {
            return sort == NOTHING;
        }

        boolean holdsRow() {
            return isSort(sort);
        }

        boolean holdsRowOf(int wanted) {
            return isSort(sort) && sort == wanted;
        }

        int refusalAsRow() {
            if (holdsNothing()) return MISSING;
            return holdsRow() ? 0 : OTHER_KIND;
        }

        int refusalAs(int wanted) {
            if (holdsNothing()) return MISSING;
            return holdsRowOf(wanted) ? 0 : OTHER_KIND;
        }

        /** Are there n places from i on? None of them may stand right behind the last, too. */
        boolean hasPlaces(int i, int n) {
            return i >= 0 && n >= 0 && n <= size && i <= size - n;
        }

        void holdNothing() {
            sort = NOTHING;
            size = 0;
        }

        void holdHole(int number) {
            sort = HOLE;
            size = 0;
            hole = number;
        }

        void holdRow(int ofSort, int n) {
            sort = ofSort;
            size = Math.max(0, Math.min(MOST_OF_A_ROW, n));
            Arrays.fill(elements, 0L);
        }

        long lowestBits(long v) {
            switch (sort) {
                case BYTES: return (byte) v;
                case SHORTS: return (short) v;
                case INTS: return (int) v;
                case BOOLEANS: return v != 0 ? 1 : 0;
                default: return v;
            }
        }
    }

    /** HOLES kept as BODIES, their ACTS, and THE TRACE. */
    private static final class Holes {
        static final int TRACED = 24;
        private static final int MOST_DEEP = 40;
        private static final int HOLDS = 0, GIVES_WAY = 1, DROPS_IT = 2, TELLS = 3, MANY_ACTS = 4;
        private static final int[] ABOVE = {-1, 0, 0, 2, 1, 3, 0, 4};
        // By KIND, then by ACT: the number of the body that the KIND itself has; 0: none. HOLE has those of its
        // interfaces, as nothing is above it.
        private static final int[] OWN = {
            1, 10, 11, 2,
            20, 0, 0, 0,
            0, 30, 0, 0,
            0, 41, 40, 0,
            0, 0, 50, 0,
            0, 0, 0, 60,
            70, 0, 0, 0,
            0, 80, 0, 81};

        final int[] kinds = new int[MOST_HOLES];
        final int[] traced = new int[TRACED];
        int many, ran;
        /** The hole that acts now. */
        private int acting;

        static boolean isKind(int kind) {
            return kind >= 0 && kind < ABOVE.length;
        }

        boolean isUnder(int hole, int kind) {
            if (hole < 0 || hole >= many) return false;
            int above = kinds[hole];
            for (int i = 0; i < ABOVE.length && isKind(above) && above != kind; i++) above = ABOVE[above];
            return above == kind;
        }

        int acts(int hole, int act, int x) {
            ran = 0;
            if (hole < 0 || hole >= many || act < 0 || act >= MANY_ACTS) return 0;
            acting = hole;
            return own(act, x, 0);
        }

        private void note(int body) {
            if (ran < TRACED) traced[ran] = body;
            ran++;
        }

        private int own(int act, int x, int deep) {
            return runs(kinds[acting], act, x, deep);
        }

        /** Runs the body of the KIND, or of the next one above that has one. */
        private int runs(int kind, int act, int x, int deep) {
            int owner = kind;
            for (int i = 0; i < ABOVE.length && isKind(owner) && OWN[MANY_ACTS * owner + act] == 0; i++) {
                owner = ABOVE[owner];
            }
            if (!isKind(owner) || deep > MOST_DEEP) return 0;
            int body = OWN[MANY_ACTS * owner + act];
            note(body);
            return owner == 0 ? ofHole(body, x, deep + 1) : ofUnder(body, ABOVE[owner], x, deep + 1);
        }

        private int ofHole(int body, int x, int deep) {
            switch (body) {
                case 1: return x + acting;
                case 10: return own(HOLDS, x, deep) * 2;
                case 11: return x ^ acting;
                case 2: return own(GIVES_WAY, x, deep) - own(DROPS_IT, 1, deep);
                default: return 0;
            }
        }

        private int ofUnder(int body, int above, int x, int deep) {
            switch (body) {
                case 20: return runs(above, HOLDS, x, deep) + 3;
                case 30: return -runs(above, GIVES_WAY, x, deep);
                case 40: return runs(above, DROPS_IT, x, deep) * 3;
                case 41: return runs(above, GIVES_WAY, x + 1, deep);
                case 50: return runs(above, DROPS_IT, x, deep) - own(HOLDS, 2, deep);
                case 60: return runs(above, TELLS, x, deep) ^ 5;
                case 70: return runs(above, HOLDS, x, deep) * 2;
                case 80: return runs(above, GIVES_WAY, x, deep) + own(DROPS_IT, 2, deep);
                case 81: return runs(above, TELLS, x, deep) - 1;
                default: return 0;
            }
        }
    }
}
