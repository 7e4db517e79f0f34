import java.lang.reflect.Method;
import java.util.ArrayList;
import java.util.Arrays;
import java.util.Comparator;
import java.util.List;
import java.util.Random;

/**
 * Long runs of calls by draws, most of them such as the document wants, some of any numbers: the class answers as
 * the model does, and never throws.
 */
public final class RandomRunsTest {
    private static final int RUNS = 700, CALLS = 512;
    private static final String[] PARTS = {"h", "l", "o", "s", "n", "c", "1", "20", "9999", "0", "+", "-", "*", "/", "%",
        "<", "=", ">", "|", "&", "!", "(", ")", "?", ";", "300", "-", "(", ")", "x", " "};
    private static final int[] FAR = {Integer.MIN_VALUE, Integer.MAX_VALUE, -1, -2, -3, 7, 10, 61, 99, 100, 1000, 12345};

    private final Random random;
    private final WithOneHand x = new WithOneHand();
    private final Model model = new Model();
    private final List<String> log = new ArrayList<>();

    private RandomRunsTest(long seed) {
        random = new Random(seed);
    }

    public static void main(String[] args) throws Exception {
        List<Method> calls = new ArrayList<>();
        for (Method method : WithOneHand.class.getDeclaredMethods()) {
            if (java.lang.reflect.Modifier.isPublic(method.getModifiers())) calls.add(method);
        }
        calls.sort(Comparator.comparing(Method::getName));
        for (int run = 0; run < RUNS; run++) {
            RandomRunsTest test = new RandomRunsTest(run);
            if (!test.goesWell(calls)) {
                System.out.println("run " + run + " is not as the model: " + test.log);
                Due.is("run " + run, 1, 0);
                break;
            }
            Due.is("run", 0, 0);
        }
        texts();
        Due.end();
    }

    private boolean goesWell(List<Method> calls) throws Exception {
        int many = 0;
        // Half of the runs begin with enough to dress.
        for (int i = random.nextInt(14); i > 0; i--, many++) {
            if (!isSame(calls, i % 2 == 0 ? "link" : "cuff")) return false;
        }
        while (many < CALLS) {
            int left = CALLS - many;
            int kind = random.nextInt(12);
            if (kind == 0 && left > 90) {
                String text = random.nextInt(4) == 0 ? anyText() : goodText(0);
                if (text.length() > 85) continue;
                for (char b : text.toCharArray()) {
                    if (x.feed(b) != model.feed(b)) return false;
                }
                log.add("text " + text);
                many += text.length() + 1;
                if (!isSame(calls, "law")) return false;
            } else if (kind == 1 && left > 30) {
                many += tellsRow();
            } else {
                many++;
                if (!isSame(calls, calls.get(random.nextInt(calls.size())).getName())) return false;
            }
        }
        return true;
    }

    /** A row of seconds as they are, or nearly, or of cuffs or spots. */
    private int tellsRow() {
        int shelf = random.nextInt(6), n = random.nextInt(13), sort = random.nextInt(2);
        int from = x.seconds(random.nextInt(6) * 11, 0), step = random.nextInt(2);
        x.row(shelf, sort, n);
        model.row(shelf, sort, n);
        for (int i = 0; i < n; i++) {
            long v = sort == 0 ? random.nextInt(random.nextInt(3) == 0 ? 10 : 2) : Math.max(1, from - step * i);
            x.put(shelf, i, v);
            model.put(shelf, i, v);
        }
        log.add("row of " + n + " on " + shelf);
        return n + 2;
    }

    private String anyText() {
        StringBuilder text = new StringBuilder();
        for (int i = random.nextInt(12); i > 0; i--) text.append(PARTS[random.nextInt(PARTS.length)]);
        return text.toString();
    }

    /** A text by the grammar, at times with one letter changed. */
    private String goodText(int lines) {
        StringBuilder text = new StringBuilder(lines(random));
        if (random.nextInt(4) == 0 && text.length() > 0) {
            text.setCharAt(random.nextInt(text.length()), PARTS[random.nextInt(PARTS.length)].charAt(0));
        }
        return text.toString();
    }

    private static String lines(Random random) {
        StringBuilder text = new StringBuilder();
        for (int i = random.nextInt(3); i > 0; i--) {
            text.append(part(random, 0, 1)).append('?').append(part(random, 0, 1)).append(';');
        }
        return text.append(part(random, 0, 0)).toString();
    }

    private static String part(Random random, int level, int deep) {
        String[] signs = {"|", "&", "<=>", "+-", "*/%"};
        if (level < signs.length) {
            StringBuilder text = new StringBuilder(part(random, level + 1, deep));
            int more = level == 3 ? random.nextInt(3) : random.nextInt(5) / 4;
            if (level == 2) more = Math.min(more, 1);
            for (; more > 0; more--) {
                text.append(signs[level].charAt(random.nextInt(signs[level].length())));
                text.append(part(random, level + 1, deep));
            }
            return text.toString();
        }
        int kind = random.nextInt(10);
        if (deep < 4 && kind == 0) return "(" + part(random, 0, deep + 2) + ")";
        if (deep < 4 && kind == 1) return (random.nextBoolean() ? "!" : "-") + part(random, 5, deep + 1);
        if (kind < 7) return String.valueOf("hlosnc".charAt(random.nextInt(6)));
        return String.valueOf(random.nextInt(random.nextBoolean() ? 10 : 10000));
    }

    private Object[] arguments(Method call) {
        Class<?>[] types = call.getParameterTypes();
        Object[] arguments = new Object[types.length];
        for (int i = 0; i < types.length; i++) {
            int v = random.nextInt(30) == 0 ? FAR[random.nextInt(FAR.length)] : usual(call.getName(), i);
            if (types[i] == long.class) arguments[i] = random.nextInt(4) == 0 ? random.nextLong() : (long) v;
            else arguments[i] = v;
        }
        if (call.getName().equals("mend") && random.nextInt(5) > 0) {
            int what = (Integer) arguments[1];
            int[] most = {9, 9, 9, 9, 1, 99, 9, 99, 99, 11, 99, 99, 99};
            if (what >= 0 && what <= 12) arguments[2] = random.nextInt(most[what] + 2);
        }
        return arguments;
    }

    /** Numbers that the call often takes. */
    private int usual(String call, int i) {
        int of = random.nextInt(6);
        switch (call + i) {
            case "link0": case "link1": case "cuff0": case "cuff1": return random.nextInt(11);
            case "spot0": case "spot1": return random.nextInt(101);
            case "mend1": case "of1": return random.nextInt(15);
            case "feed0": return PARTS[random.nextInt(PARTS.length)].charAt(0);
            case "seconds0": case "dropped0": case "by0": case "practice0": case "drawn0": case "puts0": case "judge1":
            case "how1": return 10 * of + random.nextInt(6);
            case "seconds1": return random.nextInt(4);
            case "cuffs1": return random.nextInt(10) - 3;
            case "paired0": return random.nextInt(8);
            case "paired1": return random.nextInt(8) - 1;
            case "order0": return random.nextInt(9) - 2;
            case "search0": return random.nextInt(11) - 2;
            case "by1": return random.nextInt(random.nextBoolean() ? 400 : 10000);
            case "practice1": return random.nextInt(random.nextBoolean() ? 60 : 1001);
            case "asked1": return 10000 * random.nextInt(10) + random.nextInt(random.nextBoolean() ? 200 : 10000);
            case "two0": case "two1": return random.nextInt(100);
            case "drawn1": case "act2": return random.nextInt();
            case "drawn2": return random.nextInt(51);
            case "body0": case "taken1": return random.nextInt(8);
            case "keep1": return random.nextInt(8) - 1;
            case "row2": return random.nextInt(30);
            case "put1": case "element1": case "shift1": case "shift3": case "shift4": return random.nextInt(12);
            default: return random.nextInt(7);
        }
    }

    private boolean isSame(List<Method> calls, String name) throws Exception {
        for (Method call : calls) {
            if (!call.getName().equals(name)) continue;
            Object[] arguments = arguments(call);
            Method other = Model.class.getDeclaredMethod(name, call.getParameterTypes());
            Object got = call.invoke(x, arguments), due = other.invoke(model, arguments);
            log.add(name + Arrays.toString(arguments) + " " + got);
            if (!got.equals(due)) {
                log.add("due is " + due);
                return false;
            }
        }
        return true;
    }

    /** Many texts on one object each: their faults, and what they give. */
    private static void texts() {
        Random random = new Random(99);
        for (int i = 0; i < 30000; i++) {
            String text = lines(random);
            StringBuilder changed = new StringBuilder(text);
            int at = random.nextInt(text.length());
            if (random.nextBoolean()) changed.setCharAt(at, PARTS[random.nextInt(PARTS.length)].charAt(0));
            if (random.nextInt(4) == 0) changed.setLength(at);
            if (random.nextInt(4) == 0) changed.insert(at, "(!-!(-(".substring(0, random.nextInt(8)));
            if (changed.length() > 120) continue;
            WithOneHand x = new WithOneHand();
            Model model = new Model();
            for (char b : changed.toString().toCharArray()) {
                x.feed(b);
                model.feed(b);
            }
            Due.is("law of " + changed, x.law(), model.law());
            int hard = 1 + random.nextInt(9), starch = random.nextInt(10), done = random.nextInt(100);
            x.link(hard, 1);
            model.link(hard, 1);
            x.cuff(starch, 5);
            model.cuff(starch, 5);
            x.mend(0, 8, done);
            model.mend(0, 8, done);
            Due.is("value of " + changed, x.seconds(0, 0), model.seconds(0, 0));
        }
    }
}
