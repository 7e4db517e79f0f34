import java.lang.reflect.Method;
import java.nio.file.Files;
import java.nio.file.Path;
import java.util.ArrayList;
import java.util.HashMap;
import java.util.HashSet;
import java.util.List;
import java.util.Map;
import java.util.Set;
import java.util.regex.Matcher;
import java.util.regex.Pattern;

/** Each call that is refused, with what it answers, and that it changes nothing. */
final class RefusalEdges extends Edge {
    private static final Map<String, List<Long>> untouched = new HashMap<>();
    private static final Set<String> refused = new HashSet<>();

    private RefusalEdges() { }

    static void all() throws Exception {
        constants();
        hostsRefusals();
        changesNothing();
        allThatTheDocumentNames();
        theOneNamedFirst();
        actsOfNone();
        thoughtsChangeNothing();
    }

    private static void constants() {
        says(1, "BAD = -1, NOT = -2, FULL = -3, STATE = -5, VOID = -2000000000;");
        is("BAD", WithOneHand.BAD, -1);
        is("NOT", WithOneHand.NOT, -2);
        is("FULL", WithOneHand.FULL, -3);
        is("STATE", WithOneHand.STATE, -5);
        is("VOID", WithOneHand.VOID, -2000000000);
        says(1, "VOID is -2000000000.");
        is("VOID", WithOneHand.VOID, -2000000000);
    }

    private static void hostsRefusals() {
        says(38, "The host's REFUSALS: -11 nothing is there where something is wanted; -12 it is of another "
            + "kind; -13 a place that is not there; -14 a size below 0.");
        WithOneHand x = new WithOneHand();
        is("nothing is there", x.put(0, 0, 1), -11);
        x.body(0);
        x.keep(0, 0);
        is("it is of another kind", x.put(0, 0, 1), -12);
        x.row(0, BYTES, 1);
        is("a place that is not there", x.put(0, 1, 1), -13);
        is("a size below 0", x.row(0, BYTES, -1), -14);
    }

    /** Calls a method by a text such as "link(0, 0)". */
    private static long call(WithOneHand x, String text) throws Exception {
        String name = text.substring(0, text.indexOf('('));
        String inside = text.substring(text.indexOf('(') + 1, text.length() - 1);
        String[] numbers = inside.isEmpty() ? new String[0] : inside.split(", ");
        for (Method method : WithOneHand.class.getMethods()) {
            if (!method.getName().equals(name) || method.getParameterCount() != numbers.length) continue;
            Object[] arguments = new Object[numbers.length];
            for (int i = 0; i < numbers.length; i++) {
                boolean isLong = method.getParameterTypes()[i] == long.class;
                arguments[i] = isLong ? (Object) Long.valueOf(numbers[i]) : (Object) Integer.valueOf(numbers[i]);
            }
            return ((Number) method.invoke(x, arguments)).longValue();
        }
        throw new IllegalArgumentException(text);
    }

    private static List<Long> untouched(Scene scene, int look) {
        return untouched.computeIfAbsent(scene + " " + look, key -> Scene.seen(scene.made(), look));
    }

    /** The call answers so, and behind it all is as it would be without it. */
    private static void answersAndChangesNothing(Scene scene, long due, String text) throws Exception {
        for (int look = 0; look < Scene.LOOKS; look++) {
            WithOneHand x = scene.made();
            is(scene + ": " + text, call(x, text), due);
            boolean isSame = Scene.seen(x, look).equals(untouched(scene, look));
            is(scene + ": " + text + " changes nothing, by look " + look, isSame ? 1 : 0, 1);
        }
    }

    private static void refuses(Scene scene, long due, String... texts) throws Exception {
        for (String text : texts) {
            answersAndChangesNothing(scene, due, text);
            refused.add(text.substring(0, text.indexOf('(')) + " " + due);
        }
    }

    private static void changesNothing() throws Exception {
        says(6, "What is answered so changes nothing.");
        linksCuffsSpots();
        inThought();
        spotsAndHelpers();
        toldReadBack();
        inDeed();
        actsAndShelves();
    }

    private static void linksCuffsSpots() throws Exception {
        for (Scene scene : Scene.values()) {
            refuses(scene, BAD, "link(0, 0)", "link(10, 0)", "link(1, -1)", "link(1, 10)", "cuff(-1, 0)", "cuff(10, 0)",
                "cuff(0, -1)", "cuff(0, 10)", "cuffs(-1, 0, 1)", "cuffs(6, 0, 1)", "cuffs(0, 0, 0)", "cuffs(0, 0, 7)",
                "spot(0, 1)", "spot(100, 1)", "spot(1, 0)", "spot(1, 100)", "mend(-1, 0, 1)", "mend(6, 0, 1)",
                "mend(0, -1, 1)", "mend(0, 13, 1)", "mend(2, 6, 1)", "mend(0, 6, 10)", "mend(0, 6, -1)",
                "mend(1, 9, 1)", "mend(0, 9, 12)", "mend(0, 10, 0)", "mend(1, 10, 1)", "mend(8, 11, 1)",
                "mend(0, 7, 100)", "mend(0, 8, 100)", "mend(0, 8, -1)", "of(-1, 0)", "of(6, 0)", "of(0, -1)",
                "of(0, 14)", "of(6, 13)", "of(-1, 13)", "feed(-1)", "feed(256)");
        }
        refuses(Scene.SOME, BAD, "mend(0, 0, 0)", "mend(0, 0, 10)", "mend(3, 0, 1)", "mend(0, 1, 10)", "mend(0, 2, 10)",
            "mend(0, 3, -1)", "mend(0, 4, 2)", "mend(2, 4, 0)", "mend(0, 5, 100)", "mend(0, 11, 0)", "mend(0, 12, 100)",
            "mend(2, 12, 1)");
        refuses(Scene.SOME, OTHER_KIND, "cuffs(1, 0, 1)", "cuffs(2, 0, 6)", "cuffs(3, -1, 1)", "cuffs(5, 60, 1)");
        refuses(Scene.SOME, NOT, "of(0, 13)");
        refuses(Scene.FULL, FULL, "link(1, 0)", "link(9, 9)", "cuff(0, 0)", "cuff(9, 9)", "spot(1, 1)", "spot(99, 99)",
            "feed(0)", "feed(43)", "feed(255)");
        // Where none come, nothing changes, too.
        refuses(Scene.EMPTY, 0, "cuffs(0, 0, 6)", "cuffs(5, -1, 1)");
        refuses(Scene.SOME, 0, "cuffs(4, 0, 6)", "cuffs(0, 5, 1)", "cuffs(0, 7, 1)", "cuffs(0, -1, 1)",
            "cuffs(0, 1, 6)");
        refuses(Scene.FULL, 0, "cuffs(0, 0, 6)", "cuffs(5, 57, 1)");
    }

    private static void inThought() throws Exception {
        for (Scene scene : Scene.values()) {
            refuses(scene, BAD, "seconds(-1, 0)", "seconds(60, 0)", "seconds(6, 0)", "seconds(0, -1)", "seconds(0, 4)",
                "best(-1)", "best(6)", "paired(-1, -1)", "paired(7, -1)", "paired(0, 0)", "paired(1, -2)",
                "paired(1, 1)", "order(-3)", "practice(-1, 1, 0)", "practice(60, 1, 0)", "practice(0, 0, 0)",
                "practice(0, 1000, 1)", "practice(0, 1, 2)", "practice(0, 1, -1)");
            refuses(scene, REFUSED, "dropped(-1, 0)", "dropped(60, 0)", "dropped(0, 2)", "dropped(0, -1)",
                "by(-1, 0, 0)", "by(60, 0, 0)", "by(0, -1, 0)", "by(0, 10000, 0)", "by(0, 0, 2)", "by(0, 0, -1)");
            refuses(scene, NOT, "order(6)");
        }
        refuses(Scene.BARE, NOT, "best(0)", "best(1)", "paired(1, -1)", "paired(2, 1)", "order(0)");
        refuses(Scene.SOME, NOT, "order(2)", "practice(0, 1, 0)", "practice(10, 1, 1)");
    }

    private static void spotsAndHelpers() throws Exception {
        for (Scene scene : Scene.values()) {
            refuses(scene, REFUSED, "search(-3)", "told(-1, 0)", "told(6, 0)", "told(0, 2)", "told(0, -1)");
            refuses(scene, NOT, "search(8)");
            refuses(scene, BAD, "asked(-1, 0, 0)", "asked(7, 0, 0)", "asked(0, -1, 0)", "asked(0, 100000, 1)",
                "asked(0, 0, 2)", "asked(0, 0, -1)", "two(-1, 0, 0)", "two(100, 0, 0)", "two(0, -1, 1)",
                "two(0, 100, 1)", "two(0, 0, -1)", "two(0, 0, 3)");
        }
        refuses(Scene.BARE, NOT, "search(-2)", "search(-1)", "search(0)", "told(0, 0)", "told(0, 1)");
        refuses(Scene.BARE, BAD, "asked(1, 0, 0)");
        refuses(Scene.EMPTY, STATE, "two(0, 0, 0)");
        refuses(Scene.BARE, STATE, "two(0, 0, 0)", "two(99, 99, 1)", "two(5, 5, 2)");
        refuses(Scene.SOME, NOT, "search(2)");
        refuses(Scene.SOME, REFUSED, "told(1, 0)", "told(2, 0)", "told(3, 1)", "told(4, 0)", "told(5, 1)");
    }

    private static void toldReadBack() throws Exception {
        for (Scene scene : Scene.values()) {
            refuses(scene, BAD, "judge(-1, 0)", "judge(6, 0)", "judge(0, -1)", "judge(0, 60)", "which(-1, 0)",
                "which(6, 0)", "which(0, -1)", "which(0, 6)", "how(-1, 0, 0)", "how(6, 0, 0)", "how(0, -1, 0)",
                "how(0, 60, 1)", "how(0, 0, 2)", "how(0, 0, -1)", "drawn(-1, 0, 1, 0)", "drawn(60, 0, 1, 0)",
                "drawn(0, 0, 0, 0)", "drawn(0, 0, 51, 1)", "drawn(0, 0, 1, 2)", "drawn(0, 0, 1, -1)");
        }
        refuses(Scene.SOME, MISSING, "judge(4, 0)", "which(4, 0)", "how(4, 0, 0)", "how(4, 0, 1)");
        for (int shelf : new int[] {0, 2, 3, 5}) {
            refuses(Scene.SOME, OTHER_KIND, "judge(" + shelf + ", 0)", "which(" + shelf + ", 0)",
                "how(" + shelf + ", 0, 0)", "how(" + shelf + ", 0, 1)");
        }
        refuses(Scene.SOME, NOT, "judge(1, 0)", "how(1, 20, 0)");
    }

    private static void inDeed() throws Exception {
        for (Scene scene : Scene.values()) {
            refuses(scene, BAD, "puts(-1)", "puts(6)", "puts(60)", "out(-1)", "out(6)", "led(-1)", "led(4)");
        }
        refuses(Scene.EMPTY, STATE, "back()", "undo()", "redo()");
        refuses(Scene.BARE, STATE, "out(0)", "back()", "undo()", "redo()");
        refuses(Scene.SOME, STATE, "puts(20)", "puts(1)", "puts(21)", "out(0)");
        refuses(Scene.FULL, STATE, "puts(0)", "puts(55)", "puts(50)", "puts(32)", "redo()");
    }

    private static void actsAndShelves() throws Exception {
        for (Scene scene : Scene.values()) {
            refuses(scene, BAD, "body(-1)", "body(8)", "trace(-1)", "trace(24)", "trace(14)", "keep(-1, -1)",
                "keep(6, -1)", "keep(0, -2)", "keep(0, 50)", "row(-1, 0, 1)", "row(6, 0, 1)", "row(0, -1, 1)",
                "row(0, 5, 1)", "row(0, 0, 61)", "put(-1, 0, 1)", "put(6, 0, 1)", "shift(-1, 0, 0, 0, 0)",
                "shift(0, 0, 6, 0, 0)", "taken(-1, 0)", "taken(6, 0)", "taken(0, -1)", "taken(0, 8)", "count(-1)",
                "count(7)");
            refuses(scene, SIZE_BELOW_0, "row(0, 0, -1)", "row(5, 4, -2147483648)");
            refuses(scene, REFUSED, "element(-1, 0)", "element(6, 0)", "element(0, -1)", "element(0, 60)");
        }
        refuses(Scene.EMPTY, BAD, "trace(0)", "keep(0, 0)");
        refuses(Scene.SOME, BAD, "keep(0, 8)");
        refuses(Scene.FULL, FULL, "body(0)", "body(7)");
        refuses(Scene.SOME, MISSING, "put(4, 0, 1)", "shift(4, 0, 0, 0, 1)", "shift(0, 0, 4, 0, 1)", "taken(4, 0)");
        refuses(Scene.SOME, OTHER_KIND, "put(2, 0, 1)", "shift(2, 0, 0, 0, 1)", "shift(0, 0, 2, 0, 1)",
            "shift(0, 0, 1, 0, 1)", "shift(3, 0, 5, 0, 1)", "taken(0, 0)", "taken(2, 1)", "taken(2, 7)");
        refuses(Scene.SOME, NO_PLACE, "put(0, 7, 1)", "put(0, -1, 1)", "put(5, 2, 1)", "shift(0, 0, 0, 1, 7)",
            "shift(0, -1, 0, 0, 1)", "shift(1, 0, 1, -1, 1)", "shift(5, 0, 5, 0, 3)", "shift(5, 0, 5, 0, -1)");
        refuses(Scene.SOME, REFUSED, "element(4, 0)", "element(2, 0)", "element(0, 7)");
        refuses(Scene.FULL, NO_PLACE, "put(0, 60, 1)", "shift(0, 0, 0, 1, 60)", "shift(0, 1, 5, 0, 60)");
    }

    /** Each refusal that a promise names has been answered by its call. */
    private static void allThatTheDocumentNames() throws Exception {
        says(6, "BAD (-1): no such number, or it is not as said; NOT (-2): as told; FULL (-3); STATE (-5): as "
            + "told; -11 to -14.");
        String document = Files.readString(Path.of("../shared/DOC.md")).replaceAll("\\s+", " ")
            .replace("-11 to -13", "-11, -12, -13");
        String call = "`(int|long) (\\w+)\\([^)]*\\)`";
        Matcher promise = Pattern.compile("## Promise \\d+: \\w+ " + call + ": (.*?)(?= ## )").matcher(document);
        int promises = 0;
        while (promise.find()) {
            promises++;
            boolean isLong = promise.group(1).equals("long");
            if (isLong) isRefused(promise.group(2), REFUSED);
            Matcher named = Pattern.compile("\\b(BAD|NOT|FULL|STATE)\\b|-1[1-4]\\b").matcher(promise.group(3));
            while (named.find()) {
                boolean isNot = named.group().equals("NOT");
                isRefused(promise.group(2), isLong && !isNot ? REFUSED : numberOf(named.group()));
            }
        }
        is("promises of a method", promises, 41);
    }

    private static void isRefused(String name, long due) {
        is(name + "() that answers " + due, refused.contains(name + " " + due) ? 1 : 0, 1);
    }

    private static long numberOf(String answer) {
        switch (answer) {
            case "BAD": return BAD;
            case "NOT": return NOT;
            case "FULL": return FULL;
            case "STATE": return STATE;
            default: return Integer.parseInt(answer);
        }
    }

    /** Calls that are refused for several reasons. */
    private static void theOneNamedFirst() throws Exception {
        says(40, "Answers, of several the one named first:");
        refuses(Scene.FULL, BAD, "link(0, 0)", "link(1, 10)", "cuff(10, 0)", "cuff(0, -1)", "spot(0, 1)",
            "spot(1, 100)", "feed(256)", "feed(-1)", "body(8)", "body(-1)");
        refuses(Scene.SOME, BAD, "cuffs(1, 0, 0)", "cuffs(2, 0, 7)", "practice(0, 1, 2)", "practice(0, 0, 0)",
            "practice(3, 1, 0)");
        refuses(Scene.BARE, BAD, "best(2)", "best(-1)", "paired(2, 2)", "paired(3, -1)", "paired(1, -2)", "order(-3)",
            "two(100, 0, 0)", "two(0, -1, 0)", "two(0, 0, 3)");
        refuses(Scene.BARE, REFUSED, "search(-3)", "told(0, 2)", "told(1, 0)", "told(6, 0)");
        refuses(Scene.SOME, BAD, "judge(4, 99)", "judge(2, 99)", "judge(6, 99)", "which(4, 2)", "which(2, -1)",
            "how(4, 2, 0)", "how(4, 0, 2)", "how(2, 0, 2)", "puts(22)", "puts(31)", "out(2)");
        refuses(Scene.SOME, BAD, "row(6, 0, -1)", "row(0, 5, -1)", "row(0, -1, -1)", "put(6, -1, 0)",
            "shift(6, 0, 4, 0, 1)", "shift(4, 0, 6, 0, 1)", "shift(2, -1, -1, -1, -1)", "taken(4, 8)", "taken(0, 8)",
            "taken(2, -1)");
        refuses(Scene.SOME, MISSING, "put(4, -1, 0)", "shift(4, 0, 2, 0, 1)", "shift(2, 0, 4, 0, 1)",
            "shift(4, -1, 0, -1, -1)", "shift(0, 99, 4, 0, 1)", "shift(4, 0, 4, 0, 0)");
        refuses(Scene.SOME, OTHER_KIND, "put(2, -1, 0)", "put(2, 60, 0)", "shift(2, -1, 0, 0, 1)",
            "shift(0, -1, 1, 0, 1)", "shift(0, 0, 3, 60, 1)", "shift(2, 0, 2, 0, 99)");
    }

    /** act() of no such hole answers 0, and there is no trace then; nothing else changes. */
    private static void actsOfNone() throws Exception {
        says(34, "0, and no TRACE then: no such HOLE, ACT.");
        for (String text : new String[] {"act(-1, 0, 5)", "act(50, 0, 5)", "act(0, -1, 5)", "act(0, 4, 5)"}) {
            answersAndChangesNothing(Scene.EMPTY, 0, text);
            for (int look = 1; look < Scene.LOOKS; look++) {
                WithOneHand x = Scene.SOME.made();
                is(text, call(x, text), 0);
                is(text + ": a TRACE", x.trace(0), BAD);
                boolean isSame = Scene.seen(x, look).equals(untouched(Scene.SOME, look));
                is(text + " changes nothing else, by look " + look, isSame ? 1 : 0, 1);
            }
        }
    }

    private static void thoughtsChangeNothing() throws Exception {
        says(10, "2 IN THOUGHT: SECONDS of a LINK in a CUFF now;");
        String[] texts = {"seconds(0, 0)", "seconds(0, 1)", "seconds(0, 2)", "seconds(0, 3)", "best(0)",
            "paired(2, -1)", "paired(2, 1)", "order(-2)", "order(-1)", "order(1)", "dropped(0, 0)", "by(0, 500, 1)",
            "practice(0, 999, 0)", "practice(0, 999, 1)", "search(-2)", "search(1)", "told(0, 0)",
            "asked(2, 50010, 0)", "asked(2, 50010, 1)",
            "two(35, 53, 0)", "two(35, 53, 2)", "judge(1, 0)", "which(1, 0)", "how(1, 0, 0)", "how(1, 0, 1)",
            "drawn(0, 5, 50, 0)", "drawn(0, 5, 50, 1)", "of(0, 2)", "led(0)", "trace(0)", "element(0, 0)", "count(0)"};
        for (Scene scene : new Scene[] {Scene.SOME, Scene.FULL}) {
            for (String text : texts) answersAndChangesNothing(scene, call(scene.made(), text), text);
        }
    }
}
