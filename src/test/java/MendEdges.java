/** Boundary cases of promises 6 and 7: what each number of mend() may be, and of whom it is told. */
final class MendEdges extends Edge {
    private MendEdges() { }

    static void all() {
        says(6, "HARD (what 0)");
        range(0, 1, 9, 6);
        says(6, "GIVES (1) of a LINK");
        range(1, 0, 9, 6);
        says(6, "STARCH (2)");
        range(2, 0, 9, 6);
        says(6, "OFF (3)");
        range(3, 0, 9, 6);
        says(6, "HAND (4)");
        range(4, 0, 1, 6);
        says(6, "GAP (5) of a CUFF");
        range(5, 0, 99, 6);
        says(6, "SKILL (6)");
        range(6, 0, 9, 2);
        says(6, "WIDE (7)");
        range(7, 0, 99, 2);
        says(6, "DONE (8) of a HAND");
        range(8, 0, 99, 2);
        says(6, "DROPS (9)");
        range(9, 0, 11, 1);
        says(6, "FINDS (10; number 0)");
        range(10, 1, 99, 1);
        says(6, "LIKELY (11)");
        range(11, 1, 99, 8);
        says(6, "LOOK (12) of a SPOT");
        range(12, 1, 99, 8);
        whatItWas();
        whatIsNoNumber();
        whoIsThereAtFirst();
        whichLinkOrNone();
        whichCuffIsNotThere();
    }

    private static WithOneHand full() {
        WithOneHand x = Due.with(1, 2, 3, 4, 5, 6);
        for (int i = 0; i < 8; i++) x.spot(50, 50);
        return x;
    }

    /** The least and the most that are taken, the first ones beyond, and the last and first numbers of them. */
    private static void range(int what, int least, int most, int holders) {
        WithOneHand x = full();
        for (int number = 0; number < holders; number++) {
            String call = "mend(" + number + ", " + what + ", ";
            int was = x.of(number, what);
            for (int v : new int[] {least - 1, most + 1, MIN, MAX}) is(call + v + ")", x.mend(number, what, v), BAD);
            is("it stays", x.of(number, what), was);
            is(call + least + ")", x.mend(number, what, least), was);
            is("it becomes the least", x.of(number, what), least);
            is(call + most + ")", x.mend(number, what, most), least);
            is("it becomes the most", x.of(number, what), most);
        }
        int changes = x.count(4);
        for (int number : new int[] {-1, holders, holders + 1, MIN, MAX}) {
            is("mend(" + number + ", " + what + ", " + least + ")", x.mend(number, what, least), BAD);
            is("of(" + number + ", " + what + ")", x.of(number, what), BAD);
        }
        for (int number = 0; number < holders; number++) is("it stays", x.of(number, what), most);
        is("no change", x.count(4), changes);
    }

    private static void whatItWas() {
        says(6, "becomes v: what it was. BAD.");
        WithOneHand x = Due.with(4);
        is("mend(0, 0, 7)", x.mend(0, 0, 7), 4);
        is("mend(0, 0, 10)", x.mend(0, 0, 10), BAD);
        is("mend(0, 0, 7)", x.mend(0, 0, 7), 7);
        is("mend(0, 0, 1)", x.mend(0, 0, 1), 7);
        is("of(0, 0)", x.of(0, 0), 1);
    }

    private static void whatIsNoNumber() {
        says(7, "As of mend() (0 to 12)");
        WithOneHand x = full();
        for (int what : new int[] {-1, 13, 14, MIN, MAX}) is("mend(0, " + what + ", 1)", x.mend(0, what, 1), BAD);
        for (int what : new int[] {-1, 14, 15, MIN, MAX}) is("of(0, " + what + ")", x.of(0, what), BAD);
        int[] due = {1, 0, 0, 0, 0, 20, 2, 30, 0, 0, 20, 50, 50};
        for (int what = 0; what <= 12; what++) is("of(0, " + what + ")", x.of(0, what), due[what]);
        is("no change", x.count(4), 0);
    }

    private static void whoIsThereAtFirst() {
        says(7, "of a CUFF 13 which LINK is in it");
        WithOneHand x = new WithOneHand();
        int[] holders = {0, 0, 0, 0, 0, 0, 2, 2, 2, 1, 1, 0, 0, 0};
        for (int what = 0; what <= 13; what++) {
            for (int number = -1; number <= 8; number++) {
                boolean isThere = number >= 0 && number < holders[what];
                is("is of(" + number + ", " + what + ") BAD", x.of(number, what) == BAD ? 1 : 0, isThere ? 0 : 1);
                if (!isThere) is("mend(" + number + ", " + what + ", 1)", x.mend(number, what, 1), BAD);
            }
        }
    }

    private static void whichLinkOrNone() {
        says(7, "(NOT: none)");
        WithOneHand x = full();
        for (int cuff = 0; cuff <= 5; cuff++) is("of(" + cuff + ", 13)", x.of(cuff, 13), NOT);
        for (int cuff = 0; cuff <= 5; cuff++) x.puts(10 * (5 - cuff) + cuff);
        for (int cuff = 0; cuff <= 5; cuff++) is("of(" + cuff + ", 13)", x.of(cuff, 13), 5 - cuff);
        x.out(5);
        is("of(5, 13) when it is out", x.of(5, 13), NOT);
        is("of(4, 13) still", x.of(4, 13), 1);
    }

    private static void whichCuffIsNotThere() {
        says(7, "which LINK is in it (NOT: none). BAD.");
        WithOneHand x = Due.with(1, 2);
        for (int cuff : new int[] {-1, 2, 6, MIN, MAX}) is("of(" + cuff + ", 13)", x.of(cuff, 13), BAD);
        x.link(3, 0);
        is("a third LINK is no CUFF", x.of(2, 13), BAD);
        is("of(1, 13)", x.of(1, 13), NOT);
    }
}
