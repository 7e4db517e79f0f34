/** Boundary cases of promises 8 and 9: THE TAPE, what a TEXT is, its FAULT, and what THE LAW gives. */
final class LawEdges extends Edge {
    private LawEdges() { }

    static void all() {
        lettersOfTheTape();
        aFullTape();
        theTapeIsEmptyThen();
        aTextThatFillsTheTape();
        oneLineOrMore();
        lines();
        conditions();
        orsAndAnds();
        oneComparisonAtMost();
        sums();
        products();
        digits();
        names();
        noBlanks();
        sixOpen();
        faultAtAnOperand();
        faultBehindAnOperand();
        faultInBrackets();
        textsThatEndTooEarly();
        LawValueEdges.all();
    }

    static void isFault(String text, int place) {
        is("law() of " + text, Due.tells(new WithOneHand(), text), -100 - place);
    }

    static void isGood(String text) {
        is("law() of " + text, Due.tells(new WithOneHand(), text), 1);
    }

    private static void lettersOfTheTape() {
        says(8, "A byte (0 .. 255) comes to THE TAPE: how many it has.");
        WithOneHand x = new WithOneHand();
        for (int letter : new int[] {-1, 256, 257, MIN, MAX}) is("feed(" + letter + ")", x.feed(letter), BAD);
        is("bytes", x.count(3), 0);
        is("feed(0)", x.feed(0), 1);
        is("feed(255)", x.feed(255), 2);
        is("feed(1)", x.feed(1), 3);
        is("bytes", x.count(3), 3);
    }

    private static void aFullTape() {
        says(8, "BAD, FULL (120).");
        WithOneHand x = new WithOneHand();
        for (int i = 1; i <= 119; i++) x.feed('1');
        is("the 120th", x.feed('1'), 120);
        is("the 121st", x.feed('1'), FULL);
        is("the 122nd", x.feed(255), FULL);
        is("one that is BAD", x.feed(256), BAD);
        is("another that is BAD", x.feed(-1), BAD);
        is("bytes", x.count(3), 120);
    }

    private static void theTapeIsEmptyThen() {
        says(9, "THE TAPE becomes THE LAW: 1; -100 less its FAULT; THE TAPE is empty then.");
        WithOneHand x = Due.with(1);
        is("law() of nothing", x.law(), -100);
        is("law() of 7", Due.tells(x, "7"), 1);
        is("bytes behind a law", x.count(3), 0);
        is("by it", x.seconds(0, 0), 7);
        is("law() of 5)", Due.tells(x, "5)"), -101);
        is("bytes behind a FAULT", x.count(3), 0);
        is("by the law of before", x.seconds(0, 0), 7);
        for (int i = 0; i < 120; i++) x.feed('5');
        is("law() of a full tape", x.law(), -104);
        is("bytes behind a full tape", x.count(3), 0);
        is("law() of 6", Due.tells(x, "6"), 1);
        is("by that", x.seconds(0, 0), 6);
    }

    private static void aTextThatFillsTheTape() {
        says(9, "THE LAW is a TEXT by THE TAPE (at most 120 bytes)");
        WithOneHand x = Due.with(1);
        StringBuilder text = new StringBuilder("10");
        while (text.length() < 120) text.append("+1");
        is("bytes", text.length(), 120);
        is("law() of 120 bytes", Due.tells(x, text.toString()), 1);
        is("10 and 59 times 1", x.seconds(0, 0), 69);
        for (int i = 0; i < 120; i++) x.feed(text.charAt(i));
        is("one more", x.feed('1'), FULL);
        is("law() of 120 bytes again", x.law(), 1);
        is("as before", x.seconds(0, 0), 69);
    }

    private static void oneLineOrMore() {
        says(9, "LINES, one or more");
        isFault("", 0);
        isFault(";1", 0);
        isGood("1");
        isGood("1;1");
        WithOneHand x = Due.with(1);
        StringBuilder text = new StringBuilder("!h");
        while (text.length() < 118) text.append("?1;0");
        text.append(";7");
        is("bytes", text.length(), 120);
        is("law() of 30 lines", Due.tells(x, text.toString()), 1);
        is("the second counts: 0, and 1 at least", x.seconds(0, 0), 1);
        text.setLength(0);
        text.append("-h");
        while (text.length() < 120) text.append("+h");
        is("law() of 60 names", Due.tells(x, text.toString()), 1);
        is("59 times 2, less 2", x.seconds(0, 0), 116);
        text.setLength(0);
        text.append("-h");
        while (text.length() < 120) text.append(";h");
        is("law() of 60 lines", Due.tells(x, text.toString()), 1);
        is("the first counts", x.seconds(0, 0), 1);
    }

    private static void lines() {
        says(9, "parted by ; .");
        isFault("1;", 2);
        isFault("1;;1", 2);
        isFault(";", 0);
        isFault("1,1", 1);
        isFault("(1;1)", 2);
        isGood("1;2;3");
    }

    private static void conditions() {
        says(9, "LINE: E, or E ? E (what counts if the first is not 0).");
        isFault("?1", 0);
        isFault("1?", 2);
        isFault("1??1", 2);
        isFault("1?2?3", 3);
        isFault("(1?2)", 2);
        isFault("1?;2", 2);
        isGood("1?2");
        isGood("1?2;1?2;1?2");
        WithOneHand x = Due.with(1);
        Object[][] texts = {{"1?7;8", 7}, {"-1?7;8", 7}, {"9999?7;8", 7}, {"0?7;8", 8}, {"1-1?7;8", 8}};
        for (Object[] text : texts) {
            is("law() of " + text[0], Due.tells(x, (String) text[0]), 1);
            is("value of " + text[0], x.seconds(0, 0), (Integer) text[1]);
        }
    }

    private static void orsAndAnds() {
        says(9, "E = A { | A }. A = B { & B }.");
        for (String sign : new String[] {"|", "&"}) {
            isGood("1" + sign + "2");
            isGood("1" + sign + "2" + sign + "3" + sign + "4");
            isFault(sign + "1", 0);
            isFault("1" + sign, 2);
            isFault("1" + sign + sign + "2", 2);
        }
        isGood("1|2&3|4&5");
    }

    private static void oneComparisonAtMost() {
        says(9, "B = S, or S < S, S = S, S > S.");
        for (String first : new String[] {"<", "=", ">"}) {
            isGood("1" + first + "2");
            isFault(first + "1", 0);
            isFault("1" + first, 2);
            for (String second : new String[] {"<", "=", ">"}) {
                isFault("1" + first + "2" + second + "3", 3);
                isFault("1" + first + second + "3", 2);
                isFault("(1" + first + "2" + second + "3)", 4);
                isGood("(1" + first + "2)" + second + "3");
                isGood("1" + first + "(2" + second + "3)");
                isGood("1" + first + "2|1" + second + "3");
                isGood("1" + first + "2&1" + second + "3");
                isGood("1" + first + "2?1" + second + "3;1" + first + "4");
            }
        }
    }

    private static void sums() {
        says(9, "S = P { + P, - P }.");
        isGood("1+2-3+4-5");
        isFault("+1", 0);
        isFault("1+", 2);
        isFault("1-", 2);
        isFault("1++2", 2);
        isFault("1-+2", 2);
        isGood("1+-2");
        isGood("1--2");
    }

    private static void products() {
        says(9, "P = O { * O, / O, % O }.");
        isGood("1*2/3%4*5");
        for (String sign : new String[] {"*", "/", "%"}) {
            isFault(sign + "1", 0);
            isFault("1" + sign, 2);
            isFault("1" + sign + sign + "2", 2);
            isFault("1" + sign + "+2", 2);
            isGood("1" + sign + "-2");
            isGood("1" + sign + "!2");
        }
    }

    private static void digits() {
        says(9, "O = a number (1 to 4 digits), a NAME, ! O, - O, ( E ).");
        for (String good : new String[] {"0", "9", "10", "999", "1000", "9999", "0000", "0001"}) isGood(good);
        isFault("10000", 4);
        isFault("00000", 4);
        isFault("99999", 4);
        isFault("123456789", 4);
        isFault("1+23456", 6);
        isGood("1+2345");
        isGood("1234-5678");
        isFault("1234(5", 4);
        isFault("1234h", 4);
        isFault("h1", 1);
        isFault("(1)1", 3);
    }

    private static void names() {
        says(9, "NAMES: h SKILL of the HAND, l HARD less GIVES (0 at least), o OFF, s STARCH, n DONE of the "
            + "HAND, c the CUFF.");
        WithOneHand x = new WithOneHand();
        x.link(9, 2);
        x.cuff(1, 1);
        x.cuff(3, 4);
        x.mend(1, 4, 1);
        x.mend(0, 8, 50);
        x.mend(1, 8, 6);
        String[] texts = {"h", "l", "o", "s", "n", "c"};
        int[] due = {8, 7, 4, 3, 6, 1};
        for (int i = 0; i < 6; i++) {
            is("law() of " + texts[i], Due.tells(x, texts[i]), 1);
            is("what it gives", x.seconds(1, 0), due[i]);
        }
        Due.tells(x, "l+5");
        int[] gives = {0, 8, 9}, less = {14, 6, 5};
        for (int i = 0; i < 3; i++) {
            x.mend(0, 1, gives[i]);
            is("GIVES " + gives[i], x.seconds(1, 0), less[i]);
        }
        x.mend(0, 0, 1);
        is("gives far more than it is hard", x.seconds(1, 0), 5);
    }

    private static void noBlanks() {
        says(9, "No blanks.");
        isFault(" 1", 0);
        isFault("1 ", 1);
        isFault("1 +2", 1);
        isFault("1+ 2", 2);
        isFault("1\t", 1);
        isFault("1\n", 1);
        isFault("1; 2", 2);
        isFault("( 1)", 1);
    }

    private static void sixOpen() {
        says(9, "At most 6 of ( ! - ahead of an O are open at once.");
        String[] ahead = {"((((((", "!!!!!!", "------", "(!-(!-", "-((((-", "!-!-!("};
        for (String six : ahead) {
            String closing = ")".repeat((int) six.chars().filter(b -> b == '(').count());
            isGood(six + "1" + closing);
            isGood("1+" + six + "1" + closing);
            isGood("1?" + six + "1" + closing + ";" + six + "1" + closing);
            isGood(six + "1" + closing + "?1");
            for (String seventh : new String[] {"(", "!", "-"}) {
                isFault(six + seventh + "1", 6);
                isFault("1+" + six + seventh + "1", 8);
                isFault("1?" + six + seventh + "1", 8);
                isFault("1;" + six + seventh + "1", 8);
                isGood(six.substring(1) + seventh + "1" + closing.substring(six.charAt(0) == '(' ? 1 : 0)
                    + (seventh.equals("(") ? ")" : ""));
            }
            // What is closed is open no longer, and a - between is not ahead of an O.
            isGood(six + "1" + closing + "-" + six + "2" + closing + ";" + six + "3" + closing);
        }
        isGood("((((((1-1)-1)-1)-1)-1)-1)");
        isFault("((((((1--1)-1)-1)-1)-1)-1)", 8);
        isGood("((((((1)--1)--1)--1)--1)--1)");
        isGood("(((((-1+!1)))))");
        isFault("(((((-!1)))))", 6);
    }

    /** All bytes at a place where an O must begin. */
    private static void faultAtAnOperand() {
        says(9, "FAULT: the place (from 0) of the first byte with which no TEXT goes on");
        for (String ahead : new String[] {"", "1+", "h*", "1|", "1&", "1=", "1?", "1;", "(", "!", "-", "1-"}) {
            for (char b = 0; b <= 255; b++) {
                int place = ahead.length();
                if ("0123456789hlosnc".indexOf(b) >= 0) isDone(ahead + b);
                else isFault(ahead + b + "x", "(!-".indexOf(b) >= 0 ? place + 1 : place);
            }
        }
    }

    /** It goes on: it is a TEXT, or its brackets are not closed. */
    private static void isDone(String text) {
        if (text.charAt(0) == '(') isFault(text, text.length());
        else isGood(text);
    }

    /** All bytes behind an O that is ended. */
    private static void faultBehindAnOperand() {
        says(9, "the first byte with which no TEXT goes on");
        for (String ahead : new String[] {"h", "1234", "(1)", "1+s", "!n", "-2222", "1?c", "1;o"}) {
            for (char b = 0; b <= 255; b++) {
                boolean goesOn = "|&<=>+-*/%;".indexOf(b) >= 0 || b == '?' && ahead.indexOf('?') < 0;
                isFault(ahead + b + "x", goesOn ? ahead.length() + 1 : ahead.length());
            }
        }
    }

    private static void faultInBrackets() {
        says(9, "with which no TEXT goes on");
        for (char b = 0; b <= 255; b++) {
            boolean goesOn = "|&<=>+-*/%)".indexOf(b) >= 0;
            isFault("(h" + b + "x", goesOn ? 3 : 2);
        }
        isFault("h)", 1);
        isFault("(h))", 3);
        isFault("1;h)", 3);
        isFault("()", 1);
    }

    private static void textsThatEndTooEarly() {
        says(9, "the length, if it ends too early");
        String[] texts = {"", "(", "!", "-", "1+", "1-", "1*", "1/", "1%", "1<", "1=", "1>", "1|", "1&", "1?", "1;",
            "(1", "((1)", "1?2;", "(1+", "1;(", "!(1", "-(-", "((((((1)))))"};
        for (String text : texts) isFault(text, text.length());
        StringBuilder full = new StringBuilder();
        for (int i = 0; i < 60; i++) full.append("1+");
        isFault(full.toString(), 120);
        full.setCharAt(119, ';');
        isFault(full.toString(), 120);
        full.setLength(118);
        isFault(full.append("-(").toString(), 120);
    }
}
