import java.nio.file.Files;
import java.nio.file.Path;
import java.util.Set;
import java.util.TreeSet;
import java.util.regex.Matcher;
import java.util.regex.Pattern;

/**
 * What the tests of boundary cases share. Each of them begins with the promise and the words of the document that
 * name the case: the words must stand there, and at the end each word of the document that names a boundary must have
 * been told so by one of the tests.
 */
abstract class Edge {
    static final int BAD = Due.BAD, NOT = Due.NOT, FULL = Due.FULL, STATE = Due.STATE;
    static final int MISSING = Due.MISSING, OTHER_KIND = Due.OTHER_KIND, NO_PLACE = Due.NO_PLACE;
    static final int SIZE_BELOW_0 = Due.SIZE_BELOW_0;
    static final long REFUSED = Due.REFUSED;
    static final int BYTES = Due.BYTES, SHORTS = Due.SHORTS, INTS = Due.INTS, LONGS = Due.LONGS;
    static final int BOOLEANS = Due.BOOLEANS;
    static final int MIN = Integer.MIN_VALUE, MAX = Integer.MAX_VALUE;

    private static final int PROMISES = 42;
    private static final Pattern BOUNDARY = Pattern.compile("\\d+ \\.\\. |\\bBAD\\b|\\bNOT\\b|\\bFULL\\b|\\bSTATE\\b"
        + "|-1[1-4]\\b|MIN_VALUE|VOID|at most|at least|at first|of like ones|[Tt]he first |\\b[Nn]one\\b|\\bno\\b|wrap"
        + "|by 0|once|\\bends\\b|too early|\\bbelow\\b|\\babove\\b|as many|as long as|[Nn]othing|missing|lowest|cut\\b"
        + "|half|the least|the latest|empty|fewer|not 0|named first");
    private static final String DOCUMENT = document();
    private static final boolean[] told = new boolean[DOCUMENT.length()];
    private static final Set<Integer> promises = new TreeSet<>();

    private static String document() {
        try {
            return Files.readString(Path.of("../shared/DOC.md")).replaceAll("\\s+", " ");
        } catch (java.io.IOException e) {
            throw new IllegalStateException(e);
        }
    }

    static void is(String call, long got, long want) {
        Due.is(call, got, want);
    }

    /** A test begins: of a promise, by words that stand once in it, or else in the terms, the face or the opening. */
    static void says(int promise, String words) {
        promises.add(promise);
        Due.about = "promise " + promise + ", \"" + words + "\"";
        String[] parts = {"## Promise " + promise + ": ", "## Terms", "## The public face", "## What it is"};
        for (String part : parts) {
            int from = DOCUMENT.indexOf(part), end = endOfPart(from);
            int at = DOCUMENT.indexOf(words, from);
            if (at < 0 || at + words.length() > end) continue;
            int next = DOCUMENT.indexOf(words, at + 1);
            is("the words stand there once", next < 0 || next >= end ? 1 : 2, 1);
            for (int i = at; i < at + words.length(); i++) told[i] = true;
            return;
        }
        is("the words stand there", 0, 1);
    }

    private static int endOfPart(int from) {
        int end = DOCUMENT.indexOf(" ## ", from);
        return end < 0 ? DOCUMENT.length() : end;
    }

    /** Each promise has a test, and each word that names a boundary stands in the words of one. */
    static void allIsTold() {
        Due.about = "the document";
        for (int promise = 1; promise <= PROMISES; promise++) {
            is("a test of promise " + promise, promises.contains(promise) ? 1 : 0, 1);
        }
        int terms = DOCUMENT.indexOf("## Terms"), end = DOCUMENT.indexOf("## Not promised");
        Matcher word = BOUNDARY.matcher(DOCUMENT);
        while (word.find()) {
            if (word.start() < terms || word.start() >= end) continue;
            String around = DOCUMENT.substring(Math.max(0, word.start() - 40), Math.min(end, word.end() + 40));
            is("a test of \"" + word.group() + "\" in \"" + around + "\"", told[word.start()] ? 1 : 0, 1);
        }
    }
}
