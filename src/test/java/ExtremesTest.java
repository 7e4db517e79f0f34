import java.lang.reflect.Method;
import java.util.ArrayList;
import java.util.List;

/**
 * Each call with every choice of near and far numbers, on objects in several states: it answers as the model does,
 * and nothing is thrown.
 */
public final class ExtremesTest {
    private static final int MIN = Integer.MIN_VALUE, MAX = Integer.MAX_VALUE;
    private static final int MOST_CALLS = 512;
    // By how many numbers a call takes: the more of them, the fewer choices for each.
    private static final int[][] CHOICES = {
        {},
        {MIN, MIN + 1, -1000, -101, -100, -61, -13, -12, -11, -5, -4, -3, -2, -1, 0, 1, 2, 3, 4, 5, 6, 7, 8, 9, 10, 11,
            12, 13, 14, 23, 24, 25, 47, 49, 50, 51, 59, 60, 61, 99, 100, 119, 120, 121, 255, 256, 999, 1000, MAX - 1, MAX},
        {MIN, -11, -3, -2, -1, 0, 1, 2, 3, 4, 5, 6, 7, 8, 9, 10, 11, 12, 13, 14, 50, 55, 59, 60, 61, 98, 99, 100, MAX},
        {MIN, -1, 0, 1, 2, 3, 4, 5, 6, 7, 8, 9, 10, 11, 12, 13, 55, 60, 61, 99, 100, 999, 1000, 9999, 10000, 30005, 99999,
            100000, MAX},
        {MIN, -1, 0, 1, 2, 5, 11, 50, 51, MAX},
        {MIN, -1, 0, 1, 3, 5, 6, 59, 60, MAX}};

    private static final String[][] STATES = {
        {},
        {"cuff 3 1", "cuff 9 9", "row 0 0 6", "put 0 0 4", "row 1 1 2", "put 1 0 5"},
        {"link 9 0", "link 4 6", "link 7 2", "cuff 4 2", "cuff 1 0", "spot 5 10", "spot 9 30", "spot 1 1", "mend 1 4 1",
            "mend 0 9 11", "mend 0 5 40", "mend 1 8 98", "undo", "feed 110", "feed 42", "feed 55", "feed 45", "feed 104",
            "law", "feed 40", "puts 10", "image", "body 3", "body 7", "body 5", "act 1 3 9", "row 0 0 6", "put 0 0 2",
            "put 0 1 1", "put 0 2 1", "row 1 1 2", "put 1 0 1", "keep 2 1", "row 3 1 60", "row 5 4 5"},
        {"link 9 9", "link 1 0", "link 2 0", "link 3 1", "link 4 2", "link 5 3", "cuff 9 9", "cuff 0 0", "cuff 1 2",
            "cuff 3 4", "cuff 5 6", "cuff 7 8", "spot 1 99", "spot 99 1", "spot 50 50", "spot 2 3", "spot 3 2",
            "spot 7 7", "spot 8 8", "spot 9 1", "mend 0 6 0", "mend 5 4 1", "mend 0 10 99", "puts 0", "puts 15", "image",
            "out 0", "night", "puts 3", "body 7", "body 6", "act 0 2 5", "row 0 3 60", "put 0 59 7", "row 1 3 3",
            "row 2 0 60", "row 3 1 1", "keep 5 0"}};

    private WithOneHand x;
    private Model model;
    private int calls;

    public static void main(String[] args) throws Exception {
        for (String[] state : STATES) {
            for (Method call : WithOneHand.class.getDeclaredMethods()) {
                if (!java.lang.reflect.Modifier.isPublic(call.getModifiers())) continue;
                new ExtremesTest().calls(state, call, new long[call.getParameterCount()], 0);
            }
        }
        Due.end();
    }

    private void calls(String[] state, Method call, long[] numbers, int at) throws Exception {
        if (at == numbers.length) {
            if (x == null || calls >= MOST_CALLS) begins(state);
            isSame(call, numbers);
            return;
        }
        for (int number : CHOICES[numbers.length]) {
            numbers[at] = number;
            calls(state, call, numbers, at + 1);
        }
    }

    private void begins(String[] state) throws Exception {
        x = new WithOneHand();
        model = new Model();
        calls = 0;
        for (String text : state) {
            String[] words = text.split(" ");
            long[] numbers = new long[words.length - 1];
            for (int i = 0; i < numbers.length; i++) numbers[i] = Long.parseLong(words[i + 1]);
            for (Method call : WithOneHand.class.getDeclaredMethods()) {
                boolean isIt = call.getName().equals(words[0]);
                if (isIt && java.lang.reflect.Modifier.isPublic(call.getModifiers())) isSame(call, numbers);
            }
        }
    }

    private void isSame(Method call, long[] numbers) throws Exception {
        Method other = Model.class.getDeclaredMethod(call.getName(), call.getParameterTypes());
        Object[] arguments = new Object[numbers.length];
        List<String> told = new ArrayList<>();
        for (int i = 0; i < numbers.length; i++) {
            boolean isLong = call.getParameterTypes()[i] == long.class;
            if (isLong) arguments[i] = numbers[i];
            else arguments[i] = (int) numbers[i];
            told.add("" + numbers[i]);
        }
        calls++;
        long got = ((Number) call.invoke(x, arguments)).longValue();
        Due.is(call.getName() + told, got, ((Number) other.invoke(model, arguments)).longValue());
    }
}
