/** Promises 8 and 9, and THE LAW: the tape, texts, their faults, what they give. */
public final class LawTest {
    public static void main(String[] args) {
        tape();
        goodTexts();
        faults();
        openAtOnce();
        longTexts();
        values();
        names();
        heldWithin();
        lastGoodLawRules();
        Due.end();
    }

    private static void tape() {
        WithOneHand x = new WithOneHand();
        Due.is("letter -1", x.feed(-1), Due.BAD);
        Due.is("letter 256", x.feed(256), Due.BAD);
        Due.is("letter 0", x.feed(0), 1);
        Due.is("letter 255", x.feed(255), 2);
        for (int i = 3; i <= 120; i++) Due.is("feed", x.feed('1'), i);
        Due.is("a byte too many", x.feed('1'), Due.FULL);
        Due.is("a bad byte too many", x.feed(256), Due.BAD);
        Due.is("a full tape", x.count(3), 120);
        Due.is("its law", x.law(), -100);
        Due.is("the tape is empty behind a fault", x.count(3), 0);
        Due.is("law of an empty tape", x.law(), -100);
        Due.is("a good text", Due.tells(x, "7"), 1);
        Due.is("the tape is empty behind a law", x.count(3), 0);
        Due.is("the first byte again", x.feed('7'), 1);
    }

    private static void goodTexts() {
        String[] texts = {
            "0", "9999", "h", "l", "o", "s", "n", "c", "1;2", "1?2", "1?2;3", "1;2?3;4", "1|2|3", "1&2&3", "1<2",
            "1=2", "1>2", "1<2|3>4&5=6", "(1<2)<3", "1<(2<3)", "1+2-3", "1*2/3%4", "!1", "-1", "--1", "!!1", "-!-1",
            "1--1", "1+-1", "1*-h", "((1))", "(1|2)*3", "0007", "1<2+3", "1?2<3", "1<2?3<4", "1=1?2;n=0?3;4"};
        for (String text : texts) Due.is("law of " + text, Due.tells(new WithOneHand(), text), 1);
    }

    private static void isFault(String text, int place) {
        Due.is("fault of " + text, Due.tells(new WithOneHand(), text), -100 - place);
    }

    private static void faults() {
        Object[][] texts = {
            {"", 0}, {"x", 0}, {" ", 0}, {"1 ", 1}, {" 1", 0}, {"1 +1", 1}, {"12345", 4}, {"1234h", 4}, {"1h", 1},
            {"h1", 1}, {"hl", 1}, {"1+", 2}, {"+1", 0}, {"*1", 0}, {"1**2", 2}, {"1++2", 2}, {"1<2<3", 3},
            {"1=2>3", 3}, {"1==2", 2}, {"1<", 2}, {"<1", 0}, {"1|", 2}, {"1||2", 2}, {"1&&2", 2}, {"1!2", 1},
            {"1!", 1}, {"!", 1}, {"-", 1}, {"(", 1}, {"()", 1}, {"(1", 2}, {"1)", 1}, {"(1))", 3}, {"((1)", 4},
            {"1(", 1}, {"(1)(2)", 3}, {"(1)2", 3}, {"1;", 2}, {";1", 0}, {"1;;2", 2}, {"1?", 2}, {"?1", 0},
            {"1?2?3", 3}, {"1?2;", 4}, {"(1?2)", 2}, {"(1;2)", 2}, {"1?;", 2}, {"H", 0}, {"1,2", 1}, {"1:2", 1},
            {"1?2:3", 3}, {"1<2&3<4<5", 7}, {"(1<2<3)", 4}, {"1\u00002", 1}, {"1\u00ff", 1}, {"a", 0}, {"1~", 1},
            {"1+(2*(3-4)", 10}, {"1;2;x", 4}, {"/", 0}, {"9:", 1}};
        for (Object[] row : texts) isFault((String) row[0], (Integer) row[1]);
    }

    private static void openAtOnce() {
        String[] good = {"((((((1))))))", "!!!!!!1", "------1", "(!-(!-1))", "-(((((1)))))", "1-------1",
            "((((((1))))))+((((((2))))))", "------1*------2", "!(1)+!(2)+!(3)+!(4)+!(5)+!(6)+!(7)"};
        for (String text : good) Due.is("open in " + text, Due.tells(new WithOneHand(), text), 1);
        isFault("(((((((1)))))))", 6);
        isFault("!!!!!!!1", 6);
        isFault("-------1", 6);
        isFault("(!-(!-(1", 6);
        isFault("(!-(!-!1", 6);
        isFault("1--------1", 8);
        isFault("((((((-1", 6);
        isFault("((((((1-1)-1)-1)-1)-1)-1", 24);
        isFault("((((((1-1)--1)--1)--1)--1)", 26);
        isFault("((((((1)))))-((((((", 18);
    }

    private static void longTexts() {
        StringBuilder lines = new StringBuilder("1");
        while (lines.length() + 2 <= 120) lines.append(";1");
        Due.is("lines that fill the tape", Due.tells(new WithOneHand(), lines.toString()), 1);
        lines.append(';');
        Due.is("the length", lines.length(), 120);
        isFault(lines.toString(), 120);
        StringBuilder sum = new StringBuilder();
        for (int i = 0; i < 60; i++) sum.append("n+");
        sum.setCharAt(119, ';');
        isFault(sum.toString(), 120);
        sum.setLength(119);
        Due.is("a sum of sixty", value(sum.toString(), 3), 180);
        String deep = "0|1&1<1+1*(0|1&1<1+1*(0|1&1<1+1*(0|1&1<1+1*(0|1&1<1+1*(0|1&1<1+1*(0|1&1<1+1*1))))))";
        Due.is("a text with most waiting", value(deep, 0), 1);
    }

    /** What a text gives with h 2, l 5, o 3, s 4, n as told, c 1: seconds, held within 1 .. 999. */
    private static int value(String text, int n) {
        WithOneHand x = new WithOneHand();
        x.link(9, 4);
        x.cuff(0, 0);
        x.cuff(4, 3);
        x.mend(0, 8, n);
        Due.is("law of " + text, Due.tells(x, text), 1);
        return x.seconds(1, 0);
    }

    private static void values() {
        Object[][] texts = {
            {"7", 7}, {"0042", 42}, {"1+2*3", 7}, {"(1+2)*3", 9}, {"20-3-2", 15}, {"100/10/5", 2}, {"100%30%7", 3},
            {"2*7/3", 4}, {"2*(7/3)", 4}, {"7/3*2", 4}, {"17%5*3", 6}, {"100-(-7/2)", 103}, {"100+-7%3", 99},
            {"100+7/-2", 97}, {"100+7%-3", 101}, {"9+5/0", 9}, {"9+5%0", 9}, {"10+(5|0)", 11}, {"10+(0|0)", 10},
            {"10+(5&2)", 11}, {"10+(5&0)", 10}, {"10+(0-3&-1)", 11}, {"10+(2<3)", 11}, {"10+(3<3)", 10},
            {"10+(3=3)", 11}, {"10+(3=2)", 10}, {"10+(3>2)", 11}, {"10+(3>3)", 10}, {"10+!0", 11}, {"10+!7", 10},
            {"10+!-7", 10}, {"10+!!7", 11}, {"10--5", 15}, {"10---5", 5}, {"-5*-2", 10}, {"10+(1|1&0)", 11},
            {"10+(0&1|1)", 11}, {"10+((1|1)&0)", 10}, {"10+(1<2&3>2)", 11}, {"10+(2=1+1)", 11}, {"10+(4>1+2*1)", 11},
            {"10+!1+2", 12}, {"10+!0*5", 15}, {"10+-1*3", 7}, {"0?5;6", 6}, {"1?5;6", 5}, {"-1?5;6", 5},
            {"0?5;0?6;7", 7}, {"0?5;2?6;7", 6}, {"5;6", 5}, {"0;6", 1}, {"0?5", 1}, {"0?5;0?6", 1}, {"1?0;6", 1},
            {"1|0?30;40", 30}, {"2<1?30;40", 40}, {"1?2<3;9", 1}, {"1?20+(2<3);9", 21}, {"0?1/0;8", 8},
            {"1?0|5;9", 1}, {"1?((((((7))))));9", 7}, {"1?30|0;9", 1}, {"100+(0-9%4)", 99}, {"9999*9999*9999/9999/9999/100", 1}, {"5|3", 1}, {"7&9", 1}};
        for (Object[] row : texts) Due.is("value of " + row[0], value((String) row[0], 0), (Integer) row[1]);
        // 65536 * 65536 wraps to 0; 46341 * 46341 wraps below 0.
        Due.is("wraps to 0", value("5+(8192*8*8192*8)", 0), 5);
        Due.is("wraps below 0", value("(9999*4+6345)*(9999*4+6345)<0?500;6", 0), 500);
        Due.is("the least int by -1", value("-(8192*8*8192*4)=8192*8*8192*4/-1?500;6", 0), 500);
        Due.is("the least int % -1", value("8192*8*8192*4%-1+77", 0), 77);
    }

    private static void names() {
        String[] texts = {"h", "l", "o", "s", "n", "c", "h*100+l*10+o", "s*100+n*10+c"};
        int[] due = {2, 5, 3, 4, 6, 1, 253, 461};
        for (int i = 0; i < texts.length; i++) Due.is("name " + texts[i], value(texts[i], 6), due[i]);
        WithOneHand x = new WithOneHand();
        x.link(3, 8);
        x.cuff(0, 0);
        Due.tells(x, "l+50");
        Due.is("gives more than it is hard", x.seconds(0, 0), 50);
        x.mend(0, 4, 1);
        x.mend(1, 8, 33);
        Due.tells(x, "h*100+n");
        Due.is("names of hand 1", x.seconds(0, 0), 833);
    }

    private static void heldWithin() {
        Due.is("0", value("0", 0), 1);
        Due.is("below 0", value("-50", 0), 1);
        Due.is("998", value("998", 0), 998);
        Due.is("999", value("999", 0), 999);
        Due.is("1000", value("1000", 0), 999);
        Due.is("far above", value("9999*9999", 0), 999);
    }

    private static void lastGoodLawRules() {
        WithOneHand x = Due.with(4);
        Due.is("without a text", x.seconds(0, 0), 32);
        Due.is("a fault at first", Due.tells(x, "77+"), -103);
        Due.is("still without a text", x.seconds(0, 0), 32);
        Due.is("a law", Due.tells(x, "77"), 1);
        Due.is("by it", x.seconds(0, 0), 77);
        Due.is("a fault", Due.tells(x, "55;66)"), -105);
        Due.is("by the law before", x.seconds(0, 0), 77);
        Due.is("an empty tape", x.law(), -100);
        Due.is("by the law before, again", x.seconds(0, 0), 77);
        Due.is("another law", Due.tells(x, "55"), 1);
        Due.is("by that", x.seconds(0, 0), 55);
        Due.is("a law is no change", x.count(4), 0);
    }
}
