import java.util.ArrayDeque;
import java.util.Deque;
import java.util.HashSet;
import java.util.Random;
import java.util.Set;

/**
 * Promise 9: FAULT by its own words, "the first byte with which no TEXT goes on". All ways in which a TEXT may go on
 * are kept side by side, byte by byte, as the grammar of the document tells them; a byte that none of them takes is
 * the FAULT. Neither the class nor the model reads a text so.
 */
public final class GrammarTest {
    // A way is what must still come: pairs of signs, a ' and a byte, or a part of the grammar and how many are open.
    private static final int MOST_OPEN = 6;
    private static final String LETTERS = "hlosnc019+-*/%<=>|&!-()?;";
    private static final String OPENING = "h1+((((!!--)";

    public static void main(String[] args) {
        allShortTexts();
        textsByDraws(LETTERS, 400);
        textsByDraws(OPENING, 60);
        Due.end();
    }

    private static String[] goesOnAs(char part, int open) {
        switch (part) {
            case 'T': return new String[] {"L0t0"};
            case 't': return new String[] {"", "';L0t0"};
            case 'L': return new String[] {"E0l0"};
            case 'l': return new String[] {"", "'?E0"};
            case 'E': return at(open, "A.e.");
            case 'e': return at(open, "", "'|A.e.");
            case 'A': return at(open, "B.a.");
            case 'a': return at(open, "", "'&B.a.");
            case 'B': return at(open, "S.b.");
            case 'b': return at(open, "", "'<S.", "'=S.", "'>S.");
            case 'S': return at(open, "P.s.");
            case 's': return at(open, "", "'+P.s.", "'-P.s.");
            case 'P': return at(open, "O.p.");
            case 'p': return at(open, "", "'*O.p.", "'/O.p.", "'%O.p.");
            case 'D': return digits();
            default: return operands(open);
        }
    }

    /** A part of the same openness stands behind each letter with a dot. */
    private static String[] at(int open, String... ways) {
        for (int i = 0; i < ways.length; i++) ways[i] = ways[i].replace(".", "" + open);
        return ways;
    }

    private static String[] digits() {
        String[] digits = new String[10];
        for (int i = 0; i < 10; i++) digits[i] = "'" + i;
        return digits;
    }

    private static String[] operands(int open) {
        String numbersAndNames = "D0 D0D0 D0D0D0 D0D0D0D0 'h 'l 'o 's 'n 'c";
        if (open == MOST_OPEN) return numbersAndNames.split(" ");
        int more = open + 1;
        return (numbersAndNames + " '!O" + more + " '-O" + more + " '(E" + more + "')").split(" ");
    }

    /** The ways with a byte ahead of each; "" is among them, if nothing more must come. */
    private static Set<String> laidOpen(Set<String> ways) {
        Set<String> open = new HashSet<>(), seen = new HashSet<>(ways);
        Deque<String> left = new ArrayDeque<>(ways);
        while (!left.isEmpty()) {
            String way = left.pop();
            if (way.isEmpty() || way.charAt(0) == '\'') {
                open.add(way);
                continue;
            }
            for (String first : goesOnAs(way.charAt(0), way.charAt(1) - '0')) {
                String next = first + way.substring(2);
                if (seen.add(next)) left.push(next);
            }
        }
        return open;
    }

    private static int faultOf(String text) {
        Set<String> ways = laidOpen(Set.of("T0"));
        for (int i = 0; i < text.length(); i++) {
            Set<String> behind = new HashSet<>();
            for (String way : ways) {
                if (!way.isEmpty() && way.charAt(1) == text.charAt(i)) behind.add(way.substring(2));
            }
            if (behind.isEmpty()) return i;
            ways = laidOpen(behind);
        }
        return ways.contains("") ? -1 : text.length();
    }

    private static void isSame(String text) {
        int fault = faultOf(text);
        Due.is("law of " + text, Due.tells(new WithOneHand(), text), fault < 0 ? 1 : -100 - fault);
    }

    private static void allShortTexts() {
        String some = "h1-!*<|()?;x";
        String[] texts = {""};
        for (int length = 0; length < 4; length++) {
            String[] longer = new String[texts.length * some.length()];
            for (int i = 0; i < texts.length; i++) {
                isSame(texts[i]);
                for (int j = 0; j < some.length(); j++) longer[i * some.length() + j] = texts[i] + some.charAt(j);
            }
            texts = longer;
        }
        for (String text : texts) isSame(text);
        for (int b = 0; b < 256; b++) {
            isSame("" + (char) b);
            isSame("h" + (char) b);
            isSame("h<" + (char) b);
            isSame("!(h" + (char) b);
        }
    }

    /** A byte that does not go on is taken once in so many draws, so that texts grow long and deep ahead of it. */
    private static void textsByDraws(String letters, int onceIn) {
        Random random = new Random(7);
        for (int run = 0; run < 1500; run++) {
            StringBuilder text = new StringBuilder();
            Set<String> ways = laidOpen(Set.of("T0"));
            int length = random.nextInt(random.nextInt(4) == 0 ? 121 : 40);
            while (text.length() < length) {
                char b = letters.charAt(random.nextInt(letters.length()));
                Set<String> behind = new HashSet<>();
                for (String way : ways) {
                    if (!way.isEmpty() && way.charAt(1) == b) behind.add(way.substring(2));
                }
                if (behind.isEmpty() && random.nextInt(onceIn) > 0) continue;
                text.append(b);
                if (behind.isEmpty()) break;
                ways = laidOpen(behind);
            }
            isSame(text.toString());
        }
    }
}
