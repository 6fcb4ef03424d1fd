import java.util.ArrayList;
import java.util.List;
import java.util.Random;
import java.util.regex.Matcher;
import java.util.regex.Pattern;

/**
 * FAULT by its definition: the first letter by which a text is no beginning of a TEXT, a TEXT being told once as a
 * pattern. Drawn texts (always the same ones) grow letter by letter, and at each place every letter is tried.
 */
public final class FaultTest {
    private static final String CLUSTERS = "(?:[.e]|s[1-9]|l[2-9]){1,4}";
    private static final String DEEPEST = "[0-9]" + CLUSTERS;
    private static final String DEEPER = DEEPEST + "(?:\\((?:" + DEEPEST + ")+\\))?";
    private static final String PENDANT = "[0-9]" + CLUSTERS + "(?:\\((?:" + DEEPER + ")+\\))?";
    private static final String GROUP = "\\[(?:" + PENDANT + ")+(?:\\^" + PENDANT + ")?\\]";
    private static final Pattern TEXT = Pattern.compile("(?:" + GROUP + "){0,5}");
    private static final Pattern COLOUR = Pattern.compile("(?<![sl])[0-9]");
    private static final String SIGNS = "[]()^.sle";
    private static final int NONE = -4;
    private static final int TEXTS = 60;

    private FaultTest() {
    }

    public static void main(String[] args) {
        Checks checks = new Checks();
        Random draw = new Random(1);
        int longest = 0;
        for (int i = 0; i < TEXTS; i++) {
            longest = Math.max(longest, grow(checks, draw));
        }
        checks.holds("texts come to 16 cords and more than 100 letters", longest > 100);
        checks.end("FaultTest");
    }

    /** Lets a text grow until it can't, and answers how long it was then. */
    private static int grow(Checks checks, Random draw) {
        int[] weights = new int[SIGNS.length()];
        for (int i = 0; i < weights.length; i++) {
            weights[i] = new int[] {1, 4, 20}[draw.nextInt(3)];
        }
        String text = "";
        for (int length = 0; length < 200; length++) {
            checks.due("fault of " + text, Texts.fault(text), isWhole(text) ? NONE : length);
            List<Character> fitting = new ArrayList<>();
            for (char letter = ' '; letter <= '~'; letter++) {
                String longer = text + letter;
                boolean fits = isBeginning(longer);
                int behind = isWhole(longer) ? NONE : length + 1;
                checks.due("fault of " + longer, Texts.fault(longer), fits ? behind : length);
                int sign = SIGNS.indexOf(letter);
                for (int times = sign < 0 ? 1 : weights[sign]; fits && times > 0; times--) {
                    fitting.add(letter);
                }
            }
            if (fitting.isEmpty()) {
                return length;
            }
            text += fitting.get(draw.nextInt(fitting.size()));
        }
        return 200;
    }

    private static boolean isWhole(String text) {
        return TEXT.matcher(text).matches();
    }

    /** A seventeenth cord is none, but what is told ahead of its colour may stand. */
    private static boolean isBeginning(String text) {
        Matcher matcher = TEXT.matcher(text);
        boolean whole = matcher.matches();
        return (whole || matcher.hitEnd()) && COLOUR.matcher(text).results().count() <= 16;
    }
}
