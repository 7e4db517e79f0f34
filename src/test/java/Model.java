import java.util.ArrayList;
import java.util.Arrays;
import java.util.List;

/**
 * The document read a second time, as plainly as it goes and by other ways than the class: all orders are tried, a
 * text is worked out from its letters, rows are Java's own arrays, acts are Java's own methods.
 */
final class Model {
    private static final long REFUSED = Long.MIN_VALUE;
    private static final int[] LEAST = {1, 0, 0, 0, 0, 0, 0, 0, 0, 0, 1, 1, 1};
    private static final int[] MOST = {9, 9, 9, 9, 1, 99, 9, 99, 99, 11, 99, 99, 99};

    private final List<int[]> links = new ArrayList<>();
    private final List<int[]> cuffs = new ArrayList<>();
    private final List<int[]> spots = new ArrayList<>();
    private final int[][] hands = {{2, 30, 0}, {8, 30, 0}};
    private final int[] drops = {0, 20};
    private final StringBuilder tape = new StringBuilder();
    private String text = "";
    private Integer[] in = new Integer[6];
    private int[] led = new int[4];
    private Object[] image;
    private final List<int[]> made = new ArrayList<>();
    private final List<int[]> undone = new ArrayList<>();
    private final List<Acts.Hole> holes = new ArrayList<>();
    private final List<Integer> kinds = new ArrayList<>();
    private List<Integer> trace = new ArrayList<>();
    private final Object[] shelves = new Object[6];

    int link(int hard, int gives) {
        if (hard < 1 || hard > 9 || gives < 0 || gives > 9) return -1;
        if (links.size() == 6) return -3;
        links.add(new int[] {hard, gives});
        return links.size() - 1;
    }

    int cuff(int starch, int off) {
        if (starch < 0 || starch > 9 || off < 0 || off > 9) return -1;
        if (cuffs.size() == 6) return -3;
        cuffs.add(new int[] {starch, off, 0, 20});
        return cuffs.size() - 1;
    }

    int cuffs(int shelf, int i, int n) {
        if (shelf < 0 || shelf > 5 || n < 1 || n > 6) return -1;
        if (shelves[shelf] != null && !(shelves[shelf] instanceof byte[])) return -12;
        int came = 0;
        try {
            byte[] row = (byte[]) shelves[shelf];
            while (came < n) {
                int hand = row[i + 3 * came + 2];
                if (hand != 0 && hand != 1 || cuff(row[i + 3 * came], row[i + 3 * came + 1]) < 0) return came;
                cuffs.get(cuffs.size() - 1)[2] = hand;
                came++;
            }
        } catch (NullPointerException | ArrayIndexOutOfBoundsException end) {
            return came;
        }
        return came;
    }

    int spot(int likely, int look) {
        if (likely < 1 || likely > 99 || look < 1 || look > 99) return -1;
        if (spots.size() == 8) return -3;
        spots.add(new int[] {likely, look});
        return spots.size() - 1;
    }

    /** The row in which mend() finds a number, and its place there; null: there is none. */
    private int[] rowOf(int number, int what) {
        List<int[]> of = new ArrayList<>();
        if (what == 0 || what == 1) of = links;
        if (what >= 2 && what <= 5) of = cuffs;
        if (what >= 6 && what <= 8) of = Arrays.asList(hands);
        if (what == 9 || what == 10) of = Arrays.asList(drops, null).subList(0, 1);
        if (what == 11 || what == 12) of = spots;
        return number >= 0 && number < of.size() ? of.get(number) : null;
    }

    private static int placeOf(int what) {
        int[] places = {0, 1, 0, 1, 2, 3, 0, 1, 2, 0, 1, 0, 1};
        return places[what];
    }

    int mend(int number, int what, int v) {
        int[] row = rowOf(number, what);
        if (row == null || v < LEAST[what] || v > MOST[what]) return -1;
        int was = row[placeOf(what)];
        if (v == was) return was;
        row[placeOf(what)] = v;
        made.add(new int[] {number, what, was, v});
        if (made.size() > 40) made.remove(0);
        undone.clear();
        return was;
    }

    int of(int number, int what) {
        if (what == 13) return number < 0 || number >= cuffs.size() ? -1 : in[number] == null ? -2 : in[number];
        int[] row = rowOf(number, what);
        return row == null ? -1 : row[placeOf(what)];
    }

    int feed(int letter) {
        if (letter < 0 || letter > 255) return -1;
        if (tape.length() == 120) return -3;
        tape.append((char) letter);
        return tape.length();
    }

    int law() {
        String told = tape.toString();
        tape.setLength(0);
        int fault = fault(told);
        if (fault >= 0) return -100 - fault;
        text = told;
        return 1;
    }

    /** Letter by letter: what is open, and whether an operand must come. */
    private static int fault(String text) {
        StringBuilder open = new StringBuilder();
        boolean wants = true, asked = false;
        boolean[] compared = new boolean[8];
        int digits = 0, level = 0;
        for (int i = 0; i < text.length(); i++) {
            char b = text.charAt(i);
            boolean digit = b >= '0' && b <= '9';
            if (wants) {
                if (digit || "hlosnc".indexOf(b) >= 0) {
                    wants = false;
                    digits = digit ? 1 : 4;
                    closePrefixes(open);
                } else if ("(!-".indexOf(b) >= 0 && open.length() < 6) {
                    open.append(b);
                    if (b == '(') compared[++level] = false;
                } else {
                    return i;
                }
            } else if (digit) {
                if (++digits > 4) return i;
            } else if (b == ')') {
                if (level == 0) return i;
                level--;
                open.setLength(open.length() - 1);
                closePrefixes(open);
                digits = 4;
            } else {
                wants = true;
                if ("|&".indexOf(b) >= 0) {
                    compared[level] = false;
                } else if ("<=>".indexOf(b) >= 0) {
                    if (compared[level]) return i;
                    compared[level] = true;
                } else if (b == '?' || b == ';') {
                    if (level > 0 || b == '?' && asked) return i;
                    asked = b == '?';
                    compared[0] = false;
                } else if ("+-*/%".indexOf(b) < 0) {
                    return i;
                }
            }
        }
        return wants || level > 0 ? text.length() : -1;
    }

    private static void closePrefixes(StringBuilder open) {
        while (open.length() > 0 && open.charAt(open.length() - 1) != '(') open.setLength(open.length() - 1);
    }

    /** The last sign of these outside of all brackets that has an operand ahead of it; -1: none. */
    private static int splitAt(String e, String signs) {
        int level = 0;
        for (int i = e.length() - 1; i > 0; i--) {
            char b = e.charAt(i);
            if (b == ')') level++;
            if (b == '(') level--;
            boolean behindOperand = "|&<=>+-*/%!(".indexOf(e.charAt(i - 1)) < 0;
            if (level == 0 && signs.indexOf(b) >= 0 && behindOperand) return i;
        }
        return -1;
    }

    private static int value(String e, int[] names) {
        for (String signs : new String[] {"|", "&", "<=>", "+-", "*/%"}) {
            int at = splitAt(e, signs);
            if (at > 0) return join(e.charAt(at), value(e.substring(0, at), names), value(e.substring(at + 1), names));
        }
        char b = e.charAt(0);
        if (b == '(') return value(e.substring(1, e.length() - 1), names);
        if (b == '!') return value(e.substring(1), names) == 0 ? 1 : 0;
        if (b == '-') return -value(e.substring(1), names);
        int name = "hlosnc".indexOf(b);
        return name >= 0 ? names[name] : Integer.parseInt(e);
    }

    private static int join(char sign, int a, int b) {
        switch (sign) {
            case '|': return (a | b) != 0 ? 1 : 0;
            case '&': return a * 1L * b != 0 ? 1 : 0;
            case '<': return a < b ? 1 : 0;
            case '=': return a == b ? 1 : 0;
            case '>': return a > b ? 1 : 0;
            case '+': return (int) ((long) a + b);
            case '-': return (int) ((long) a - b);
            case '*': return (int) ((long) a * b);
            case '/': return b == 0 ? 0 : (int) ((long) a / b);
            default: return b == 0 ? 0 : (int) ((long) a % b);
        }
    }

    private int takes(int link, int cuff, int h, int s, int n) {
        int[] k = links.get(link), c = cuffs.get(cuff);
        int l = k[0] > k[1] ? k[0] - k[1] : 0, o = c[1];
        if (text.isEmpty()) return Math.max(1, (10 - h) * l + s + 2 * o - n);
        int sum = 0;
        for (String line : text.split(";")) {
            String[] parts = line.split("\\?");
            int[] names = {h, l, o, s, n, cuff};
            if (parts.length == 2 && value(parts[0], names) == 0) continue;
            sum = value(parts[parts.length - 1], names);
            break;
        }
        return sum < 1 ? 1 : sum > 999 ? 999 : sum;
    }

    private int now(int link, int cuff, int more) {
        int[] hand = hands[cuffs.get(cuff)[2]];
        return takes(link, cuff, hand[0], cuffs.get(cuff)[0], hand[2] + more);
    }

    private boolean isNot(int lc) {
        return lc < 0 || lc / 10 >= links.size() || lc % 10 >= cuffs.size();
    }

    int seconds(int lc, int what) {
        if (isNot(lc) || what < 0 || what > 3) return -1;
        int link = lc / 10, cuff = lc % 10;
        int[] hand = hands[0][0] >= hands[1][0] ? hands[0] : hands[1];
        int before = takes(link, cuff, hand[0], cuffs.get(cuff)[0], hand[2]) / 2;
        if (before < 1) before = 1;
        int wide = hands[cuffs.get(cuff)[2] == 0 ? 1 : 0][1];
        boolean through = wide <= cuffs.get(cuff)[3] + links.get(link)[1] * 2;
        if (what == 0) return now(link, cuff, 0);
        if (what == 1) return before;
        if (what == 2) return through ? 1 : 0;
        return through && before < now(link, cuff, 0) ? before : now(link, cuff, 0);
    }

    int best(int cuff) {
        if (cuff < 0 || cuff >= cuffs.size()) return -1;
        int best = -2;
        for (int link = links.size() - 1; link >= 0; link--) {
            if (best < 0 || now(link, cuff, 0) <= now(best, cuff, 0)) best = link;
        }
        return best;
    }

    /** All ways to lay out n of so many, the first ones first. */
    private static void ways(int[] way, int at, int n, int many, List<int[]> all) {
        if (at == n) {
            all.add(Arrays.copyOf(way, n));
            return;
        }
        for (int i = 0; i < many; i++) {
            boolean used = false;
            for (int j = 0; j < at; j++) used |= way[j] == i;
            if (used) continue;
            way[at] = i;
            ways(way, at + 1, n, many, all);
        }
    }

    int paired(int n, int cuff) {
        if (n < 0 || n > cuffs.size() || cuff < -1 || cuff >= n) return -1;
        if (n > links.size()) return -2;
        int[][] takes = new int[6][n];
        for (int l = 0; l < links.size(); l++) {
            for (int c = 0; c < n; c++) takes[l][c] = now(l, c, 0);
        }
        List<int[]> all = new ArrayList<>();
        ways(new int[6], 0, n, links.size(), all);
        int least = Integer.MAX_VALUE;
        int[] best = null;
        for (int[] way : all) {
            int sum = 0;
            for (int c = 0; c < n; c++) sum += takes[way[c]][c];
            if (sum < least) {
                least = sum;
                best = way;
            }
        }
        return cuff < 0 ? least : best[cuff];
    }

    private int sumOf(int[] way, int[][] takes) {
        int sum = 0;
        int[] more = new int[2];
        for (int c : way) sum += takes[c][more[cuffs.get(c)[2]]++];
        return sum;
    }

    int order(int k) {
        if (k < -2) return -1;
        int many = Math.min(links.size(), cuffs.size());
        if (k >= many) return -2;
        int[][] takes = new int[many][many];
        List<Integer> hard = new ArrayList<>();
        for (int c = 0; c < many; c++) {
            for (int more = 0; more < many; more++) takes[c][more] = now(c, c, more);
            hard.add(c);
        }
        List<int[]> all = new ArrayList<>();
        ways(new int[6], 0, many, many, all);
        int[] best = all.get(0);
        for (int[] way : all) {
            if (sumOf(way, takes) < sumOf(best, takes)) best = way;
        }
        if (k >= 0) return best[k];
        if (k == -1) return sumOf(best, takes);
        hard.sort((a, b) -> takes[b][0] - takes[a][0]);
        return sumOf(hard.stream().mapToInt(c -> c).toArray(), takes) - sumOf(best, takes);
    }

    private static long fraction(long above, long below, int part) {
        for (long d = Math.min(3000000, Math.max(above, below)); d > 1; d--) {
            if (above % d == 0 && below % d == 0) return (part == 0 ? above : below) / d;
        }
        return part == 0 ? above : below;
    }

    long dropped(int lc, int part) {
        if (isNot(lc) || part < 0 || part > 1) return REFUSED;
        return fraction(12L * now(lc / 10, lc % 10, 0) + drops[0] * drops[1], 12 - drops[0], part);
    }

    long by(int lc, int t, int part) {
        if (isNot(lc) || t < 0 || t > 9999 || part < 0 || part > 1) return REFUSED;
        int takes = now(lc / 10, lc % 10, 0), n = 0;
        while (n < 6 && (n + 1) * takes + n * drops[1] <= t) n++;
        long all = (long) Math.pow(12, n);
        return fraction(all - (long) Math.pow(drops[0], n), all, part);
    }

    int practice(int lc, int x, int what) {
        if (isNot(lc) || x < 1 || x > 999 || what < 0 || what > 1) return -1;
        int link = lc / 10, cuff = lc % 10;
        for (int i = 0; i <= (what == 0 ? 99 : 9); i++) {
            int done = hands[cuffs.get(cuff)[2]][2];
            int takes = what == 0 ? now(link, cuff, i) : takes(link, cuff, i, cuffs.get(cuff)[0], done);
            if (takes <= x) return i;
        }
        return -2;
    }

    private long mean(List<Integer> way, int part) {
        long sum = 0, all = 0, clock = 0;
        for (int s : way) {
            clock += spots.get(s)[1];
            sum += clock * spots.get(s)[0];
        }
        for (int s = 0; s < spots.size(); s++) {
            all += spots.get(s)[0];
            if (!way.contains(s)) sum += 999 * spots.get(s)[0];
        }
        return fraction(sum, all, part);
    }

    long search(int k) {
        if (k < -2) return REFUSED;
        if (spots.isEmpty() || k >= spots.size()) return -2;
        List<Integer> way = new ArrayList<>();
        for (int s = 0; s < spots.size(); s++) way.add(s);
        way.sort((a, b) -> spots.get(a)[1] * spots.get(b)[0] - spots.get(b)[1] * spots.get(a)[0]);
        return k >= 0 ? way.get(k) : mean(way, k == -2 ? 0 : 1);
    }

    long told(int shelf, int part) {
        if (shelf < 0 || shelf > 5 || part < 0 || part > 1 || !(shelves[shelf] instanceof byte[])) return REFUSED;
        if (spots.isEmpty()) return -2;
        List<Integer> way = new ArrayList<>();
        for (byte b : (byte[]) shelves[shelf]) {
            if (b < 0 || b >= spots.size() || way.contains((int) b)) break;
            way.add((int) b);
        }
        return mean(way, part);
    }

    int asked(int n, int kt, int what) {
        if (n < 0 || n > Math.min(links.size(), cuffs.size()) || kt < 0 || kt > 99999) return -1;
        if (what < 0 || what > 1) return -1;
        int k = kt / 10000, t = kt % 10000, clock = 0, c = 0;
        while (c < n && clock < t) {
            clock += now(c, c, 0);
            c++;
        }
        for (; c < n; c++) clock += takes(c, c, k, cuffs.get(c)[0], 0);
        int waited = t;
        for (c = 0; c < n; c++) waited += takes(c, c, k, cuffs.get(c)[0], 0);
        return what == 0 ? clock : waited < clock ? 1 : 0;
    }

    int two(int one, int other, int what) {
        if (one < 0 || one > 99 || other < 0 || other > 99 || what < 0 || what > 2) return -1;
        if (links.size() < 2 || cuffs.size() < 2) return -5;
        int[] alone = new int[2];
        int help = 0;
        int[][] skills = {{one / 10, one % 10}, {other / 10, other % 10}};
        for (int p = 0; p < 2; p++) {
            for (int c = 0; c < 2; c++) {
                alone[p] += takes(c, c, skills[p][cuffs.get(c)[2]], cuffs.get(c)[0], 0);
                help += takes(c, c, Math.max(skills[p][0], skills[p][1]), cuffs.get(c)[0], 0);
            }
        }
        int[] answers = {Math.max(alone[0], alone[1]), help, 0};
        if (help < answers[0]) answers[2] = 1;
        return answers[what];
    }

    private int refusal(int shelf) {
        return shelves[shelf] == null ? -11 : shelves[shelf] instanceof short[] ? 0 : -12;
    }

    private int firstNot(int shelf, int link, int cuff, int starch, int hand) {
        short[] row = (short[]) shelves[shelf];
        for (int i = 0; i < row.length; i++) {
            if (takes(link, cuff, hands[hand][0], starch, hands[hand][2] + i) != row[i]) return i;
        }
        return -2;
    }

    int judge(int shelf, int lc) {
        if (shelf < 0 || shelf > 5 || isNot(lc)) return -1;
        if (refusal(shelf) != 0) return refusal(shelf);
        return firstNot(shelf, lc / 10, lc % 10, cuffs.get(lc % 10)[0], cuffs.get(lc % 10)[2]);
    }

    int which(int shelf, int cuff) {
        if (shelf < 0 || shelf > 5 || cuff < 0 || cuff >= cuffs.size()) return -1;
        if (refusal(shelf) != 0) return refusal(shelf);
        int bits = 0;
        for (int l = 0; l < links.size(); l++) {
            if (judge(shelf, 10 * l + cuff) == -2) bits += 1 << l;
        }
        return bits;
    }

    int how(int shelf, int lc, int what) {
        if (shelf < 0 || shelf > 5 || isNot(lc) || what < 0 || what > 1) return -1;
        if (refusal(shelf) != 0) return refusal(shelf);
        int[] c = cuffs.get(lc % 10);
        int bits = 0;
        for (int hand = 0; hand < 2; hand++) {
            if (firstNot(shelf, lc / 10, lc % 10, c[0], hand) == -2) bits += 1 + hand;
        }
        if (what == 1) return bits;
        for (int s = 0; s <= 9; s++) {
            if (firstNot(shelf, lc / 10, lc % 10, s, c[2]) == -2) return s;
        }
        return -2;
    }

    int drawn(int lc, int seed, int n, int what) {
        if (isNot(lc) || n < 1 || n > 50 || what < 0 || what > 1) return -1;
        int z = seed, seconds = 0, left = 0;
        evenings:
        for (int evening = 0; evening < n; evening++) {
            for (int tries = 0; tries < 20; tries++) {
                z = z * 1103515245 + 12345;
                seconds += now(lc / 10, lc % 10, 0);
                if ((z >>> 8) % 12 >= drops[0]) continue evenings;
                seconds += drops[1];
            }
            left++;
        }
        return what == 0 ? seconds : left;
    }

    int puts(int lc) {
        if (isNot(lc)) return -1;
        int link = lc / 10, cuff = lc % 10;
        if (in[cuff] != null || Arrays.asList(in).contains(link)) return -5;
        int seconds = now(link, cuff, 0);
        in[cuff] = link;
        led[0] += seconds;
        led[1]++;
        int[] hand = hands[cuffs.get(cuff)[2]];
        if (hand[2] < 99) hand[2]++;
        return seconds;
    }

    int out(int cuff) {
        if (cuff < 0 || cuff >= cuffs.size()) return -1;
        if (in[cuff] == null) return -5;
        int link = in[cuff];
        in[cuff] = null;
        led[2]++;
        return link;
    }

    int night() {
        int many = 0;
        for (int c = 0; c < 6; c++) many += in[c] == null ? 0 : 1;
        in = new Integer[6];
        led[3]++;
        return many;
    }

    int led(int what) {
        return what < 0 || what > 3 ? -1 : led[what];
    }

    int image() {
        image = new Object[] {in.clone(), led.clone(), hands[0][2], hands[1][2]};
        return led[0];
    }

    int back() {
        if (image == null) return -5;
        in = ((Integer[]) image[0]).clone();
        led = ((int[]) image[1]).clone();
        hands[0][2] = (Integer) image[2];
        hands[1][2] = (Integer) image[3];
        return led[0];
    }

    int undo() {
        if (made.isEmpty()) return -5;
        int[] change = made.remove(made.size() - 1);
        undone.add(change);
        rowOf(change[0], change[1])[placeOf(change[1])] = change[2];
        return made.size();
    }

    int redo() {
        if (undone.isEmpty()) return -5;
        int[] change = undone.remove(undone.size() - 1);
        made.add(change);
        rowOf(change[0], change[1])[placeOf(change[1])] = change[3];
        return undone.size();
    }

    int body(int kind) {
        if (kind < 0 || kind > 7) return -1;
        if (holes.size() == 50) return -3;
        holes.add(Acts.of(kind, holes.size()));
        kinds.add(kind);
        return holes.size() - 1;
    }

    int act(int body, int act, int x) {
        trace = new ArrayList<>();
        if (body < 0 || body >= holes.size() || act < 0 || act > 3) return 0;
        int answer = holes.get(body).acts(act, x);
        trace.addAll(holes.get(body).trace);
        return answer;
    }

    int trace(int i) {
        return i < 0 || i >= trace.size() || i > 23 ? -1 : trace.get(i);
    }

    int keep(int shelf, int body) {
        if (shelf < 0 || shelf > 5 || body < -1 || body >= holes.size()) return -1;
        shelves[shelf] = body < 0 ? null : holes.get(body);
        return 1;
    }

    int row(int shelf, int sort, int n) {
        if (shelf < 0 || shelf > 5 || sort < 0 || sort > 4 || n > 60) return -1;
        if (n < 0) return -14;
        Object[] rows = {new byte[n], new short[n], new int[n], new long[n], new boolean[n]};
        shelves[shelf] = rows[sort];
        return 1;
    }

    int put(int shelf, int i, long v) {
        if (shelf < 0 || shelf > 5) return -1;
        Object row = shelves[shelf];
        if (row == null) return -11;
        if (!row.getClass().isArray()) return -12;
        if (i < 0 || i >= java.lang.reflect.Array.getLength(row)) return -13;
        if (row instanceof byte[]) ((byte[]) row)[i] = (byte) v;
        if (row instanceof short[]) ((short[]) row)[i] = (short) v;
        if (row instanceof int[]) ((int[]) row)[i] = (int) v;
        if (row instanceof long[]) ((long[]) row)[i] = v;
        if (row instanceof boolean[]) ((boolean[]) row)[i] = v != 0;
        return 1;
    }

    long element(int shelf, int i) {
        if (shelf < 0 || shelf > 5 || shelves[shelf] == null || !shelves[shelf].getClass().isArray()) return REFUSED;
        if (i < 0 || i >= java.lang.reflect.Array.getLength(shelves[shelf])) return REFUSED;
        if (shelves[shelf] instanceof boolean[]) return ((boolean[]) shelves[shelf])[i] ? 1 : 0;
        return java.lang.reflect.Array.getLong(shelves[shelf], i);
    }

    int shift(int shelf, int i, int other, int j, int n) {
        if (shelf < 0 || shelf > 5 || other < 0 || other > 5) return -1;
        try {
            System.arraycopy(shelves[shelf], i, shelves[other], j, n);
            return n;
        } catch (NullPointerException none) {
            return -11;
        } catch (ArrayStoreException unlike) {
            return -12;
        } catch (IndexOutOfBoundsException place) {
            return -13;
        }
    }

    int taken(int shelf, int k) {
        if (shelf < 0 || shelf > 5 || k < 0 || k > 7) return -1;
        if (shelves[shelf] == null) return -11;
        if (!Acts.of(k, 0).getClass().isInstance(shelves[shelf])) return -12;
        return kinds.get(holes.indexOf(shelves[shelf]));
    }

    int count(int what) {
        int[] counts = {links.size(), cuffs.size(), spots.size(), tape.length(), made.size(), holes.size(), trace.size()};
        return what < 0 || what > 6 ? -1 : counts[what];
    }
}
