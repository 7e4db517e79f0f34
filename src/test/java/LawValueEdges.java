/** Boundary cases of what THE LAW gives: wraps, divisions, signs, lines that count, what is held within bounds. */
final class LawValueEdges extends Edge {
    private LawValueEdges() { }

    static void all() {
        intsThatWrap();
        towardZero();
        byZero();
        oneAndZero();
        theLineThatCounts();
        noLineCounts();
        heldWithin();
        withoutAText();
        lessThanOne();
    }

    /** SECONDS by a text, with h 2, l 5, o 3, s 4, n 0, c 0. */
    private static int value(String text) {
        WithOneHand x = new WithOneHand();
        x.link(9, 4);
        x.cuff(4, 3);
        is("law() of " + text, Due.tells(x, text), 1);
        return x.seconds(0, 0);
    }

    private static void isValue(String text, int due) {
        is("value of " + text, value(text), due);
    }

    private static void intsThatWrap() {
        says(9, "Ints that wrap;");
        // 8192 * 8 is 2 to the 16; its square 2 to the 32.
        isValue("5+8192*8*8192*8", 5);
        isValue("8192*8*8192*4<0?500;6", 500);
        isValue("8192*8*8192*4-1>0?500;6", 500);
        isValue("-(8192*8*8192*4-1)-1-1>0?500;6", 500);
        isValue("-(8192*8*8192*4)=8192*8*8192*4?500;6", 500);
        isValue("8192*8*8192*4-1+1=8192*8*8192*4?500;6", 500);
        // 9999 * 9999 is 99980001; times 43 it is 4299140043, 4172747 behind the wrap.
        isValue("9999*9999*43/8345", 500);
        isValue("9999*9999*43%8345", 247);
    }

    private static void towardZero() {
        says(9, "/ and % toward 0");
        isValue("100+-7/2", 97);
        isValue("100+7/-2", 97);
        isValue("100+-7/-2", 103);
        isValue("100+7/2", 103);
        isValue("100+-7%2", 99);
        isValue("100+7%-2", 101);
        isValue("100+-7%-2", 99);
        isValue("100+1/2", 100);
        isValue("100+-1/2", 100);
        isValue("8192*8*8192*4/-1=8192*8*8192*4?500;6", 500);
        isValue("77+8192*8*8192*4%-1", 77);
    }

    private static void byZero() {
        says(9, "by 0 they give 0");
        isValue("9+5/0", 9);
        isValue("9+5%0", 9);
        isValue("9+-5/0", 9);
        isValue("9+0/0", 9);
        isValue("9+0%0", 9);
        isValue("9+8192*8*8192*4/0", 9);
        isValue("9+5/(h-2)", 9);
        isValue("9+5%(h-2)", 9);
        isValue("5/0?8;9", 9);
    }

    private static void oneAndZero() {
        says(9, "| & < = > ! give 1, 0; all is worked out.");
        Object[][] texts = {{"0|0", 0}, {"0|5", 1}, {"5|0", 1}, {"5|3", 1}, {"-1|0", 1}, {"0&0", 0}, {"0&5", 0},
            {"5&0", 0}, {"5&3", 1}, {"2&1", 1}, {"-1&-1", 1}, {"1<2", 1}, {"2<2", 0}, {"3<2", 0}, {"-1<0", 1},
            {"1=2", 0}, {"2=2", 1}, {"3=2", 0}, {"1>2", 0}, {"2>2", 0}, {"3>2", 1}, {"0>-1", 1}, {"!0", 1}, {"!1", 0},
            {"!-1", 0}, {"!9", 0}, {"!!9", 1}, {"1|1/0", 1}, {"0&1/0", 0}, {"0|1&0", 0}, {"1|1&0", 1}, {"0&1|1", 1}};
        for (Object[] text : texts) isValue("10+(" + text[0] + ")", 10 + (Integer) text[1]);
    }

    private static void theLineThatCounts() {
        says(9, "The first LINE without a first E, or whose first E is not 0, counts");
        isValue("7;8;9", 7);
        isValue("0?7;8;9", 8);
        isValue("0?7;0?8;9", 9);
        isValue("0?7;1?8;9", 8);
        isValue("1?7;1?8;9", 7);
        isValue("-1?7;8", 7);
        isValue("7;1?8", 7);
        isValue("0?7;0?8;0?9;-5?11", 11);
        isValue("0;7", 1);
    }

    private static void noLineCounts() {
        says(9, "counts; none: 0.");
        isValue("0?7", 1);
        isValue("0?7;0?8", 1);
        isValue("h-2?7;0?800", 1);
    }

    private static void heldWithin() {
        says(9, "(held within 1 .. 999)");
        isValue("-9999", 1);
        isValue("-1", 1);
        isValue("0", 1);
        isValue("1", 1);
        isValue("2", 2);
        isValue("998", 998);
        isValue("999", 999);
        isValue("1000", 999);
        isValue("9999*9999", 999);
        isValue("8192*8*8192*4", 1);
        isValue("8192*8*8192*4-1", 999);
    }

    private static void withoutAText() {
        says(9, "Without a text: 10 less h, times l, and s, and 2 o, less n");
        WithOneHand x = new WithOneHand();
        x.link(9, 0);
        x.cuff(9, 9);
        is("8 times 9, and 9, and 18", x.seconds(0, 0), 99);
        x.mend(0, 6, 0);
        is("the most", x.seconds(0, 0), 117);
        x.mend(0, 6, 9);
        is("SKILL 9", x.seconds(0, 0), 36);
        x.mend(0, 8, 30);
        is("DONE 30", x.seconds(0, 0), 6);
        is("a FAULT is no text", Due.tells(x, "5+"), -102);
        is("without one still", x.seconds(0, 0), 6);
    }

    private static void lessThanOne() {
        says(9, "less n; 1 at least.");
        WithOneHand x = new WithOneHand();
        x.link(1, 0);
        x.cuff(2, 0);
        int[] done = {0, 8, 9, 10, 11, 99}, due = {10, 2, 1, 1, 1, 1};
        for (int i = 0; i < done.length; i++) {
            x.mend(0, 8, done[i]);
            is("DONE " + done[i], x.seconds(0, 0), due[i]);
        }
        x = new WithOneHand();
        x.link(1, 9);
        x.cuff(0, 0);
        is("0 is 1 at least", x.seconds(0, 0), 1);
    }
}
