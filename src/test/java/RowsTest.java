/** Promises 37 to 40: row, put, element, shift. */
public final class RowsTest {
    public static void main(String[] args) {
        rows();
        rowsAreNew();
        lowestBits();
        refusals();
        shifts();
        shiftsInOne();
        shiftRefusals();
        shiftPlaces();
        Due.end();
    }

    private static void rows() {
        WithOneHand x = new WithOneHand();
        Due.is("shelf -1", x.row(-1, 0, 1), Due.BAD);
        Due.is("shelf 6", x.row(6, 0, 1), Due.BAD);
        Due.is("sort -1", x.row(0, -1, 1), Due.BAD);
        Due.is("sort 5", x.row(0, 5, 1), Due.BAD);
        Due.is("61 elements", x.row(0, 0, 61), Due.BAD);
        Due.is("-1 elements", x.row(0, 0, -1), Due.SIZE_BELOW_0);
        Due.is("the least int of elements", x.row(5, 4, Integer.MIN_VALUE), Due.SIZE_BELOW_0);
        Due.is("bad sort ahead of -1 elements", x.row(0, 5, -1), Due.BAD);
        Due.is("bad shelf ahead of -1 elements", x.row(6, 0, -1), Due.BAD);
        Due.is("nothing there still", x.put(0, 0, 1), Due.MISSING);
        for (int shelf = 0; shelf < 6; shelf++) {
            x = new WithOneHand();
            for (int sort = 0; sort <= 4; sort++) {
                Due.is("no elements", x.row(shelf, sort, 0), 1);
                Due.holds("no elements", x, shelf);
                Due.is("60 elements", x.row(shelf, sort, 60), 1);
                Due.holds("60 elements", x, shelf, new long[60]);
            }
        }
    }

    private static void rowsAreNew() {
        WithOneHand x = new WithOneHand();
        Due.lays(x, 0, Due.INTS, 1, 2, 3, 4);
        Due.lays(x, 1, Due.INTS, 5, 6);
        Due.is("a refused row", x.row(0, Due.INTS, -1), Due.SIZE_BELOW_0);
        Due.holds("a refused row", x, 0, 1, 2, 3, 4);
        x.row(0, Due.INTS, 2);
        Due.holds("a shorter row", x, 0, 0, 0);
        x.row(0, Due.INTS, 5);
        Due.holds("a longer row", x, 0, 0, 0, 0, 0, 0);
        Due.holds("another shelf", x, 1, 5, 6);
    }

    private static void lowestBits() {
        long[] values = {0, 1, -1, 127, 128, 255, 256, -128, -129, 32767, 32768, 65536, 2147483647L, 2147483648L,
            1L << 32, Long.MAX_VALUE, Long.MIN_VALUE, 0x123456789abcdefL};
        WithOneHand x = new WithOneHand();
        for (int sort = 0; sort <= 4; sort++) x.row(sort, sort, 2);
        for (long v : values) {
            long[] due = {(byte) v, (short) v, (int) v, v, v == 0 ? 0 : 1};
            for (int sort = 0; sort <= 4; sort++) {
                Due.is("put of " + v, x.put(sort, 1, v), 1);
                Due.holds(v + " in sort " + sort, x, sort, 0, due[sort]);
            }
        }
    }

    private static void refusals() {
        WithOneHand x = new WithOneHand();
        Due.is("put on shelf -1", x.put(-1, 0, 0), Due.BAD);
        Due.is("put on shelf 6", x.put(6, 0, 0), Due.BAD);
        Due.is("put on nothing", x.put(0, -1, 0), Due.MISSING);
        x.body(0);
        x.keep(0, 0);
        Due.is("put on a hole", x.put(0, -1, 0), Due.OTHER_KIND);
        Due.is("element of a hole", x.element(0, 0), Due.REFUSED);
        Due.is("element of nothing", x.element(1, 0), Due.REFUSED);
        Due.is("element of shelf -1", x.element(-1, 0), Due.REFUSED);
        Due.is("element of shelf 6", x.element(6, 0), Due.REFUSED);
        x.row(0, Due.LONGS, 3);
        for (int i : new int[] {-1, 3, 59, 60, Integer.MIN_VALUE, Integer.MAX_VALUE}) {
            Due.is("put at " + i, x.put(0, i, 7), Due.NO_PLACE);
            Due.is("element at " + i, x.element(0, i), Due.REFUSED);
        }
        Due.holds("nothing was put", x, 0, 0, 0, 0);
    }

    private static void shifts() {
        for (int sort = 0; sort <= 4; sort++) {
            WithOneHand x = new WithOneHand();
            Due.lays(x, 0, sort, 1, 0, 1, 1);
            Due.lays(x, 1, sort, 0, 0, 0, 0, 0, 1);
            Due.is("three of four", x.shift(0, 1, 1, 2, 3), 3);
            Due.holds("to", x, 1, 0, 0, 0, 1, 1, 1);
            Due.holds("from", x, 0, 1, 0, 1, 1);
            Due.is("all", x.shift(0, 0, 1, 0, 4), 4);
            Due.holds("to", x, 1, 1, 0, 1, 1, 1, 1);
            Due.is("none", x.shift(0, 4, 1, 6, 0), 0);
            Due.holds("to", x, 1, 1, 0, 1, 1, 1, 1);
        }
    }

    private static void shiftsInOne() {
        WithOneHand x = new WithOneHand();
        Due.lays(x, 0, Due.SHORTS, 1, 2, 3, 4, 5);
        Due.is("up", x.shift(0, 0, 0, 1, 4), 4);
        Due.holds("up", x, 0, 1, 1, 2, 3, 4);
        Due.is("down", x.shift(0, 2, 0, 0, 3), 3);
        Due.holds("down", x, 0, 2, 3, 4, 3, 4);
        Due.is("onto itself", x.shift(0, 1, 0, 1, 4), 4);
        Due.holds("onto itself", x, 0, 2, 3, 4, 3, 4);
    }

    private static void shiftRefusals() {
        WithOneHand x = new WithOneHand();
        x.body(0);
        x.row(0, Due.BYTES, 3);
        x.row(1, Due.SHORTS, 3);
        x.keep(2, 0);
        Due.is("shelf -1", x.shift(-1, 0, 0, 0, 0), Due.BAD);
        Due.is("other 6", x.shift(3, 0, 6, 0, 0), Due.BAD);
        Due.is("from nothing", x.shift(3, 0, 0, 0, 1), Due.MISSING);
        Due.is("to nothing", x.shift(0, 0, 3, 0, 1), Due.MISSING);
        Due.is("nothing ahead of a hole", x.shift(2, 0, 3, 0, 1), Due.MISSING);
        Due.is("nothing ahead of a hole, too", x.shift(3, 0, 2, 0, 1), Due.MISSING);
        Due.is("from a hole", x.shift(2, 0, 0, 0, 1), Due.OTHER_KIND);
        Due.is("to a hole", x.shift(0, 0, 2, 0, 1), Due.OTHER_KIND);
        Due.is("a hole to itself", x.shift(2, 0, 2, 0, 0), Due.OTHER_KIND);
        Due.is("unlike sorts", x.shift(0, 0, 1, 0, 1), Due.OTHER_KIND);
        Due.is("unlike sorts ahead of no place", x.shift(0, 9, 1, 0, 1), Due.OTHER_KIND);
    }

    private static void shiftPlaces() {
        WithOneHand x = new WithOneHand();
        Due.lays(x, 0, Due.BYTES, 1, 2, 3);
        Due.lays(x, 1, Due.BYTES, 4, 5);
        int min = Integer.MIN_VALUE, max = Integer.MAX_VALUE;
        int[][] none = {{-1, 0, 1}, {0, -1, 1}, {0, 0, 3}, {2, 0, 2}, {0, 1, 2}, {3, 0, 1}, {0, 2, 1}, {4, 0, 0},
            {0, 3, 0}, {0, 0, -1}, {-1, 0, 0}, {max, 0, 1}, {0, max, 1}, {0, 0, max}, {max, max, max}, {1, 1, max},
            {min, 0, 1}, {0, min, 1}, {0, 0, min}, {min, min, min}, {1, 1, min}, {3, 2, -1}};
        for (int[] n : none) {
            Due.is("shift of " + n[0] + ", " + n[1] + ", " + n[2], x.shift(0, n[0], 1, n[1], n[2]), Due.NO_PLACE);
        }
        Due.holds("from", x, 0, 1, 2, 3);
        Due.holds("to", x, 1, 4, 5);
        Due.is("the last two", x.shift(0, 1, 1, 0, 2), 2);
        Due.holds("to then", x, 1, 2, 3);
    }
}
