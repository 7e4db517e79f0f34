/** Promises 25 to 32: puts, out, night, led, image, back, undo, redo. */
public final class DeedTest {
    public static void main(String[] args) {
        puts();
        doneAtMost();
        out();
        night();
        led();
        image();
        cuffsSinceTheImage();
        undo();
        redo();
        changesThatAreNone();
        fortyChanges();
        fortyChangesOfAll();
        deedsAreNoChanges();
        Due.end();
    }

    private static void puts() {
        WithOneHand x = Due.with(2, 3, 4);
        x.mend(2, 4, 1);
        Due.is("link 1 into cuff 0", x.puts(10), 24);
        Due.is("it is in", x.of(0, 13), 1);
        Due.is("done once", x.of(0, 8), 1);
        Due.is("the link is in one", x.puts(11), Due.STATE);
        Due.is("the cuff has one", x.puts(0), Due.STATE);
        Due.is("both", x.puts(10), Due.STATE);
        Due.is("bad ahead of state", x.puts(13), Due.BAD);
        Due.is("no more done", x.of(0, 8), 1);
        Due.is("link 0 into cuff 1, one less", x.puts(1), 15);
        Due.is("by the other hand", x.puts(22), 8);
        Due.is("done by hand 0", x.of(0, 8), 2);
        Due.is("done by hand 1", x.of(1, 8), 1);
        Due.is("seconds", x.led(0), 47);
        Due.is("put", x.led(1), 3);
    }

    private static void doneAtMost() {
        WithOneHand x = Due.with(2, 3);
        x.mend(0, 8, 98);
        x.puts(0);
        Due.is("99", x.of(0, 8), 99);
        x.puts(11);
        Due.is("99 at most", x.of(0, 8), 99);
        Due.is("both put", x.led(1), 2);
    }

    private static void out() {
        WithOneHand x = Due.with(2, 3);
        Due.is("none is in", x.out(0), Due.STATE);
        Due.is("cuff -1", x.out(-1), Due.BAD);
        Due.is("cuff 2", x.out(2), Due.BAD);
        x.puts(1);
        Due.is("none is in cuff 0", x.out(0), Due.STATE);
        Due.is("link 0", x.out(1), 0);
        Due.is("it is out", x.of(1, 13), Due.NOT);
        Due.is("once", x.out(1), Due.STATE);
        Due.is("taken out", x.led(2), 1);
        Due.is("done stays", x.of(0, 8), 1);
        Due.is("in again", x.puts(0), 15);
        Due.is("out again", x.out(0), 0);
        Due.is("taken out twice", x.led(2), 2);
    }

    private static void night() {
        WithOneHand x = Due.with(2, 3, 4);
        Due.is("none were in", x.night(), 0);
        x.puts(0);
        x.puts(12);
        Due.is("two were in", x.night(), 2);
        for (int c = 0; c < 3; c++) Due.is("all are out", x.of(c, 13), Due.NOT);
        Due.is("none is in any more", x.night(), 0);
        Due.is("nights", x.led(3), 3);
        Due.is("a night takes none out", x.led(2), 0);
        Due.is("done stays", x.of(0, 8), 2);
        Due.is("in again", x.puts(0), 14);
    }

    private static void led() {
        WithOneHand x = Due.with(2);
        Due.is("what -1", x.led(-1), Due.BAD);
        Due.is("what 4", x.led(4), Due.BAD);
        for (int i = 0; i < 3; i++) x.puts(0);
        x.out(0);
        x.puts(0);
        x.night();
        x.out(0);
        int[] due = {16 + 15, 2, 1, 1};
        for (int what = 0; what < 4; what++) Due.is("led(" + what + ")", x.led(what), due[what]);
    }

    private static void image() {
        WithOneHand x = Due.with(2, 3);
        Due.is("no image", x.back(), Due.STATE);
        x.mend(1, 4, 1);
        x.puts(0);
        x.puts(11);
        x.out(1);
        x.night();
        x.puts(1);
        Due.is("an image", x.image(), 16 + 6 + 3);
        x.out(1);
        x.puts(10);
        x.night();
        x.mend(0, 2, 9);
        x.mend(0, 8, 77);
        Due.is("laid back", x.back(), 25);
        int[] due = {25, 3, 1, 1};
        for (int what = 0; what < 4; what++) Due.is("led(" + what + ") of the image", x.led(what), due[what]);
        Due.is("cuff 0 of the image", x.of(0, 13), Due.NOT);
        Due.is("cuff 1 of the image", x.of(1, 13), 0);
        Due.is("done 0 of the image", x.of(0, 8), 1);
        Due.is("done 1 of the image", x.of(1, 8), 2);
        Due.is("starch is not of the image", x.of(0, 2), 9);
        Due.is("link 0 is in", x.puts(0), Due.STATE);
        x.night();
        Due.is("laid back again", x.back(), 25);
        Due.is("cuff 1 of the image again", x.of(1, 13), 0);
        x.out(1);
        Due.is("another image", x.image(), 25);
        x.puts(1);
        Due.is("laid back to that", x.back(), 25);
        Due.is("cuff 1 of that", x.of(1, 13), Due.NOT);
        Due.is("taken out in that", x.led(2), 2);
    }

    private static void cuffsSinceTheImage() {
        WithOneHand x = Due.with(2);
        x.puts(0);
        x.image();
        x.out(0);
        x.cuff(1, 1);
        x.link(3, 0);
        x.puts(1);
        Due.is("back", x.back(), 16);
        Due.is("cuff 0", x.of(0, 13), 0);
        Due.is("a cuff that came since", x.of(1, 13), Due.NOT);
        Due.is("it is still there", x.count(1), 2);
        Due.is("so is the link", x.puts(11), 26);
    }

    private static void undo() {
        WithOneHand x = Due.with(2);
        Due.is("none", x.undo(), Due.STATE);
        x.mend(0, 0, 5);
        x.mend(0, 2, 6);
        x.mend(0, 0, 7);
        Due.is("three changes", x.count(4), 3);
        Due.is("the latest", x.undo(), 2);
        Due.is("hard", x.of(0, 0), 5);
        Due.is("starch stays", x.of(0, 2), 6);
        Due.is("the next", x.undo(), 1);
        Due.is("starch", x.of(0, 2), 0);
        Due.is("the first", x.undo(), 0);
        Due.is("hard at first", x.of(0, 0), 2);
        Due.is("no more", x.undo(), Due.STATE);
        Due.is("none may be undone", x.count(4), 0);
    }

    private static void redo() {
        WithOneHand x = Due.with(2);
        x.mend(0, 0, 5);
        x.mend(0, 2, 6);
        x.mend(0, 0, 7);
        Due.is("none undone", x.redo(), Due.STATE);
        x.undo();
        x.undo();
        x.undo();
        Due.is("the first again", x.redo(), 2);
        Due.is("hard", x.of(0, 0), 5);
        Due.is("one may be undone", x.count(4), 1);
        Due.is("the second again", x.redo(), 1);
        Due.is("starch", x.of(0, 2), 6);
        Due.is("undone once more", x.undo(), 1);
        Due.is("starch at first", x.of(0, 2), 0);
        Due.is("the second once more", x.redo(), 1);
        Due.is("the third again", x.redo(), 0);
        Due.is("hard at last", x.of(0, 0), 7);
        Due.is("no more", x.redo(), Due.STATE);
        x.undo();
        x.undo();
        x.mend(0, 3, 9);
        Due.is("another came behind", x.redo(), Due.STATE);
        Due.is("two may be undone", x.count(4), 2);
        Due.is("that one", x.undo(), 1);
        Due.is("and again", x.redo(), 0);
        Due.is("off", x.of(0, 3), 9);
    }

    private static void changesThatAreNone() {
        WithOneHand x = Due.with(2);
        Due.is("the same number", x.mend(0, 0, 2), 2);
        Due.is("is no change", x.count(4), 0);
        x.mend(0, 0, 3);
        x.undo();
        Due.is("the same number behind", x.mend(0, 0, 2), 2);
        x.mend(0, 0, 10);
        x.mend(5, 0, 1);
        x.link(1, 1);
        x.cuff(1, 1);
        x.spot(1, 1);
        Due.tells(x, "5");
        Due.is("nothing came behind", x.redo(), 0);
        Due.is("hard", x.of(0, 0), 3);
    }

    private static void fortyChanges() {
        WithOneHand x = Due.with(2);
        for (int i = 1; i <= 45; i++) {
            x.mend(0, 5, 20 + i);
            Due.is("changes", x.count(4), Math.min(i, 40));
        }
        for (int i = 39; i >= 0; i--) Due.is("undo of forty", x.undo(), i);
        Due.is("no more than forty", x.undo(), Due.STATE);
        Due.is("gap of then", x.of(0, 5), 25);
        for (int i = 39; i >= 0; i--) Due.is("redo of forty", x.redo(), i);
        Due.is("gap at last", x.of(0, 5), 65);
        Due.is("no more to do again", x.redo(), Due.STATE);
    }

    /** Changes of many numbers, more than are kept: each comes back to where it was. */
    private static void fortyChangesOfAll() {
        WithOneHand x = Due.with(2, 2, 2, 2, 2, 2);
        for (int i = 0; i < 8; i++) x.spot(20, 20);
        int[][] changes = new int[50][];
        for (int i = 0; i < 50; i++) {
            int what = i * 5 % 13;
            int holders = what <= 5 ? 6 : what <= 8 ? 2 : what <= 10 ? 1 : 8;
            int number = i * 7 % holders;
            int v = x.of(number, what) == 1 ? what == 4 ? 0 : 3 : 1;
            changes[i] = new int[] {number, what, x.of(number, what), v};
            x.mend(number, what, v);
        }
        for (int i = 49; i >= 10; i--) {
            Due.is("undo of many", x.undo(), i - 10);
            Due.is("as it was", x.of(changes[i][0], changes[i][1]), changes[i][2]);
        }
        Due.is("no more of many", x.undo(), Due.STATE);
        for (int i = 10; i < 50; i++) {
            Due.is("redo of many", x.redo(), 49 - i);
            Due.is("as it became", x.of(changes[i][0], changes[i][1]), changes[i][3]);
        }
    }

    private static void deedsAreNoChanges() {
        WithOneHand x = Due.with(2, 3);
        x.mend(0, 8, 10);
        x.puts(0);
        Due.is("one change", x.count(4), 1);
        Due.is("done by deed", x.of(0, 8), 11);
        Due.is("undone", x.undo(), 0);
        Due.is("done of before", x.of(0, 8), 0);
        Due.is("the link stays in", x.of(0, 13), 0);
        x.puts(11);
        x.out(1);
        x.night();
        x.image();
        x.back();
        Due.is("done again behind deeds", x.redo(), 0);
        Due.is("done of the change", x.of(0, 8), 10);
    }
}
