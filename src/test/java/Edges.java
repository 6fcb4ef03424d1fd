import java.lang.reflect.InvocationTargetException;
import java.lang.reflect.Method;
import java.util.Arrays;
import java.util.Comparator;

/**
 * Runs tests of boundary cases, one to each sentence of the document that names one. A test is a static method whose
 * name begins with "promise" and the promise's number, so that what fails is told by its promise.
 */
final class Edges {
    static final int BAD = -1, NO = -2, FULL = -3, NONE = -4;
    static final int LEAST = Integer.MIN_VALUE, MOST = Integer.MAX_VALUE;
    /** No object is asked more often than the document promises answers. */
    private static final int MOST_CALLS = 512;

    private final Checks checks = new Checks();
    private String test = "";
    private int calls;

    private Edges() {
    }

    interface Calls {
        void on(ToldInKnots knots);
    }

    interface Call {
        int on(ToldInKnots knots);
    }

    /** Runs all tests of a class; each promise from the first to the last has to have one at least. */
    static void run(Class<?> tests, int first, int last) throws IllegalAccessException {
        Edges edges = new Edges();
        boolean[] tested = new boolean[last + 1];
        Method[] all = tests.getDeclaredMethods();
        Arrays.sort(all, Comparator.comparing(Method::getName));
        for (Method method : all) {
            if (method.getName().startsWith("promise")) {
                edges.run(method);
                tested[Integer.parseInt(method.getName().substring(7, 9))] = true;
            }
        }
        for (int promise = first; promise <= last; promise++) {
            edges.checks.holds("promise " + promise + " has a test", tested[promise]);
        }
        edges.checks.end(tests.getName());
    }

    private void run(Method method) throws IllegalAccessException {
        test = method.getName();
        try {
            method.invoke(null, this);
        } catch (InvocationTargetException thrown) {
            checks.holds(test + " threw " + thrown.getCause(), false);
        }
    }

    void due(String call, long got, long want) {
        checks.due(test + ": " + call, got, want);
    }

    /** What an object answers on which a text has been laid. */
    void due(String text, Call call, int want) {
        due("on " + text, call.on(Texts.laid(text)), want);
    }

    /** What cannot be laid: by its fault. */
    void fault(String text, int want) {
        due("fault of " + text, Texts.fault(text), want);
    }

    /** The call is refused, and nothing at all can be seen of it behind it. */
    void refused(Calls ahead, Call refused, int want) {
        ToldInKnots asked = new ToldInKnots();
        ahead.on(asked);
        due("refused", refused.on(asked), want);
        unchanged(ahead, refused, asked);
    }

    /** Nothing at all can be seen behind a call. */
    void unchanged(Calls ahead, Call call) {
        ToldInKnots asked = new ToldInKnots();
        ahead.on(asked);
        call.on(asked);
        unchanged(ahead, call, asked);
    }

    private void unchanged(Calls ahead, Call call, ToldInKnots asked) {
        ToldInKnots twin = new ToldInKnots();
        ahead.on(twin);
        String want = tale(twin);
        String got = tale(asked);
        checks.holds(test + ": nothing changed, is\n" + got + "\n  due is\n" + want + "\n ", got.equals(want));
    }

    /** All that can be seen of an object, and all that can be brought back on it. */
    private String tale(ToldInKnots knots) {
        StringBuilder tale = new StringBuilder();
        calls = 0;
        tale.append(sight(knots));
        for (int left = ask(knots.undo()); left >= 0; left = ask(knots.undo())) {
            tale.append("UNDONE ").append(left).append(' ').append(sight(knots));
        }
        for (int left = ask(knots.back()); left >= 0; left = ask(knots.back())) {
            tale.append("BACK ").append(left).append(' ').append(sight(knots));
        }
        tale.append("FAULT ").append(ask(knots.fault())).append(" LAID ").append(ask(knots.lay()));
        tale.append(' ').append(sight(knots));
        checks.holds(test + ": calls are promised, " + calls, calls < MOST_CALLS - 50);
        return tale.toString();
    }

    private int ask(int answer) {
        calls++;
        return answer;
    }

    private String sight(ToldInKnots knots) {
        StringBuilder sight = new StringBuilder();
        for (int what = 0; what <= 7; what++) {
            sight.append(ask(knots.count(what))).append(what < 7 ? "," : ": ");
        }
        for (int g = 0; ask(knots.group(g, 0)) >= 0; g++) {
            sight.append('[');
            for (int k = 0; ask(knots.pendant(g, k)) >= 0; k++) {
                sight.append(knots.pendant(g, k)).append(' ');
                calls++;
            }
            sight.append('^').append(ask(knots.group(g, 1))).append("] ");
        }
        for (int c = 0; ask(knots.cord(c, 0)) >= 0; c++) {
            sight.append(ask(knots.cord(c, 2))).append('/').append(ask(knots.cord(c, 3))).append('/');
            sight.append(ask(knots.cord(c, 0)));
            for (int k = 0; ask(knots.cluster(c, k)) >= 0; k++) {
                sight.append('.').append(knots.cluster(c, k));
                calls++;
            }
            sight.append(' ');
        }
        return sight.append('\n').toString();
    }
}
