import java.util.ArrayList;
import java.util.List;
import java.util.Random;

/** Long runs of drawn calls, each answered by the program and by the plain telling of the document alike. */
public final class AgreementTest {
    private static final int RUNS = 400;
    private static final int TEXTS = 20000;
    private static final String[] CALLS = {"write", "wipe", "fault", "lay", "cord", "cluster", "group", "pendant",
        "tie", "more", "knot", "dye", "hang", "undo", "wrong", "mend", "slip", "lost", "closed", "order", "share",
        "make", "colours", "path", "same", "year", "keep", "back", "count"};
    private static final int[] ODD = {Integer.MIN_VALUE, Integer.MAX_VALUE, -1, -2, -10000, 10000, 9999, -9999, 16, 200};

    private final Random random;
    private final Checks checks;
    private ToldInKnots knots = new ToldInKnots();
    private PlainKnots plain = new PlainKnots();
    private final List<String> told = new ArrayList<>();

    private AgreementTest(long seed, Checks checks) {
        this.random = new Random(seed);
        this.checks = checks;
    }

    public static void main(String[] args) {
        Checks checks = new Checks();
        for (int run = 0; run < RUNS && !checks.failed(); run++) {
            new AgreementTest(run, checks).run(run);
        }
        AgreementTest texts = new AgreementTest(77, checks);
        for (int i = 0; i < TEXTS && !checks.failed(); i++) {
            texts.compareFault();
        }
        checks.end("AgreementTest");
    }

    private void run(int run) {
        told.add("run " + run);
        int calls = 0;
        while (calls < 512 && !checks.failed()) {
            if (calls == 0 || random.nextInt(150) == 0) {
                String text = drawnText(run % 4 == 0);
                if (text.length() > 511 - calls) {
                    return;
                }
                calls += text.length() + 2;
                layText(text);
            }
            call(CALLS[random.nextInt(CALLS.length)]);
            calls++;
        }
    }

    private void layText(String text) {
        compare("wipe", 0, 0, 0, 0);
        for (int i = 0; i < text.length(); i++) {
            compare("write", text.charAt(i), 0, 0, 0);
        }
        compare("lay", 0, 0, 0, 0);
    }

    private void compareFault() {
        knots = new ToldInKnots();
        plain = new PlainKnots();
        told.clear();
        String text = spoilt(drawnText(random.nextBoolean()));
        layText(text);
        compare("fault", 0, 0, 0, 0);
        compare("count", 0, 0, 0, 0);
    }

    // what is drawn

    private String spoilt(String text) {
        StringBuilder letters = new StringBuilder(text);
        String all = "[](^)0123456789.slel. x";
        for (int i = random.nextInt(4); i > 0 && letters.length() > 0; i--) {
            int place = random.nextInt(letters.length());
            char letter = all.charAt(random.nextInt(all.length()));
            switch (random.nextInt(4)) {
                case 0 -> letters.setCharAt(place, letter);
                case 1 -> letters.insert(place, letter);
                case 2 -> letters.deleteCharAt(place);
                default -> letters.setLength(place);
            }
        }
        letters.setLength(Math.min(letters.length(), 200));
        return letters.toString();
    }

    /** A text that can be laid, now and then of a cord or a group too many. */
    private String drawnText(boolean large) {
        StringBuilder text = new StringBuilder();
        int cords = large ? 16 + (random.nextInt(8) == 0 ? 1 : 0) : 2 + random.nextInt(9);
        int groups = 1 + random.nextInt(Math.min(cords / 2, random.nextInt(30) == 0 ? 6 : 5));
        boolean neat = random.nextInt(5) > 0;
        int longest = 1 + random.nextInt(4);
        for (int g = 0; g < groups; g++) {
            int share = g == groups - 1 ? cords : 2 + (cords - 2 * (groups - g) > 0
                ? random.nextInt(cords - 2 * (groups - g) + 1) : 0);
            cords -= share;
            boolean top = share > 1 && random.nextInt(6) > 0;
            text.append('[');
            int left = top ? share - 1 : share;
            while (left > 0) {
                left -= drawnCord(text, left, 0, neat, longest);
            }
            if (top) {
                text.append('^');
                drawnCord(text, 1, 0, neat, 4);
            }
            text.append(']');
        }
        return text.toString();
    }

    private int drawnCord(StringBuilder text, int left, int depth, boolean neat, int longest) {
        text.append(random.nextInt(random.nextBoolean() ? 2 : 10));
        int clusters = 1 + random.nextInt(longest);
        for (int k = clusters - 1; k >= 0; k--) {
            drawnCluster(text, k, neat || random.nextInt(3) > 0);
        }
        int used = 1;
        if (left > 1 && random.nextInt(3) == 0) {
            boolean tooDeep = depth == 2 && random.nextInt(20) == 0;
            if (depth < 2 || tooDeep) {
                int below = 1 + random.nextInt(Math.min(left - 1, 3));
                text.append('(');
                int hung = 0;
                while (hung < below) {
                    hung += drawnCord(text, below - hung, depth + 1, neat, longest);
                }
                text.append(')');
                used += hung;
            }
        }
        return used;
    }

    private void drawnCluster(StringBuilder text, int place, boolean neat) {
        int figure = random.nextInt(3) == 0 ? random.nextInt(2) : random.nextInt(10);
        if (!neat) {
            String[] any = {".", "s" + (1 + random.nextInt(9)), "l" + (2 + random.nextInt(8)), "e"};
            text.append(any[random.nextInt(4)]);
        } else if (figure == 0) {
            text.append('.');
        } else if (place > 0) {
            text.append('s').append(figure);
        } else if (figure == 1) {
            text.append('e');
        } else {
            text.append('l').append(figure);
        }
    }

    private int upTo(int most) {
        return random.nextInt(40) == 0 ? ODD[random.nextInt(ODD.length)] : random.nextInt(most + 1);
    }

    private int number() {
        switch (random.nextInt(5)) {
            case 0: return upTo(9);
            case 1: return upTo(99);
            case 2: return upTo(9999);
            case 3: return Math.max(plain.cord(random.nextInt(16), 7), 0);
            default: return Math.max(plain.cord(random.nextInt(16), 7), 0) + Math.max(plain.cord(random.nextInt(16), 7), 0);
        }
    }

    private int cord() {
        return upTo(random.nextInt(10) == 0 ? 16 : Math.max(plain.count(0) - 1, 0));
    }

    private int group() {
        return upTo(random.nextInt(10) == 0 ? 6 : plain.count(1) - 1);
    }

    private void call(String name) {
        switch (name) {
            case "write" -> compare(name, 28 + random.nextInt(104), 0, 0, 0);
            case "wipe", "fault", "undo" -> compare(name, 0, 0, 0, 0);
            case "lay", "keep", "back" -> {
                if (random.nextInt(3) == 0) {
                    compare(name, 0, 0, 0, 0);
                }
            }
            case "cord" -> compare(name, cord(), upTo(11), 0, 0);
            case "cluster" -> compare(name, cord(), upTo(4), 0, 0);
            case "group" -> compare(name, group(), upTo(4), 0, 0);
            case "pendant" -> compare(name, group(), upTo(5), 0, 0);
            case "tie" -> compare(name, cord(), number(), 0, 0);
            case "more" -> compare(name, cord(), random.nextBoolean() ? number() : -number(), 0, 0);
            case "knot" -> drawnKnot();
            case "dye" -> compare(name, cord(), upTo(random.nextBoolean() ? 1 : 10), 0, 0);
            case "hang" -> compare(name, cord(), group(), 0, 0);
            case "wrong", "mend", "order" -> compare(name, group(), 0, 0, 0);
            case "slip" -> {
                nearlyRight();
                compare(name, group(), upTo(2), 0, 0);
            }
            case "lost" -> compare(name, cord(), 0, 0, 0);
            case "closed" -> compare(name, cord(), upTo(7), upTo(2), 0);
            case "share" -> compare(name, random.nextBoolean() ? 5 : group(), upTo(2), 0, 0);
            case "make" -> compare(name, number(), 0, 0, 0);
            case "colours" -> compare(name, upTo(10), upTo(2), 0, 0);
            case "path" -> compare(name, upTo(random.nextBoolean() ? 1 : 10), upTo(random.nextBoolean() ? 1 : 10), 0, 0);
            case "same" -> compare(name, cord(), cord(), 0, 0);
            case "year" -> compare(name, upTo(9999), upTo(2), 0, 0);
            default -> compare("count", upTo(8), 0, 0, 0);
        }
    }

    private void drawnKnot() {
        int place = upTo(4);
        int kind = random.nextInt(4) == 0 ? upTo(4) : place == 0 ? 2 : 1;
        compare("knot", cord(), place, kind, random.nextInt(6) == 0 ? random.nextInt(12) - 1 : kind % 3 == 0 ? kind / 3 : upTo(9));
    }

    /** A pendant is tied for what is lost on it and then a cluster is made another, so that slips are met. */
    private void nearlyRight() {
        int c = random.nextInt(plain.count(0));
        int v = plain.lost(c);
        if (v >= 0 && random.nextBoolean()) {
            compare("tie", c, v, 0, 0);
            int place = random.nextInt(2);
            compare("knot", random.nextInt(plain.count(0)), place, place == 0 ? 2 : 1, 2 + random.nextInt(8));
        }
    }

    private void compare(String name, int a, int b, int c, int d) {
        String call = name + "(" + a + ", " + b + ", " + c + ", " + d + ")";
        told.add(call);
        int want = plainly(name, a, b, c, d);
        int got;
        try {
            got = answered(name, a, b, c, d);
        } catch (RuntimeException thrown) {
            checks.holds(told + " threw " + thrown, false);
            return;
        }
        checks.due(got == want ? call : told + ": the last", got, want);
    }

    private int answered(String name, int a, int b, int c, int d) {
        return switch (name) {
            case "write" -> knots.write(a);
            case "wipe" -> knots.wipe();
            case "fault" -> knots.fault();
            case "lay" -> knots.lay();
            case "cord" -> knots.cord(a, b);
            case "cluster" -> knots.cluster(a, b);
            case "group" -> knots.group(a, b);
            case "pendant" -> knots.pendant(a, b);
            case "tie" -> knots.tie(a, b);
            case "more" -> knots.more(a, b);
            case "knot" -> knots.knot(a, b, c, d);
            case "dye" -> knots.dye(a, b);
            case "hang" -> knots.hang(a, b);
            case "undo" -> knots.undo();
            case "wrong" -> knots.wrong(a);
            case "mend" -> knots.mend(a);
            case "slip" -> knots.slip(a, b);
            case "lost" -> knots.lost(a);
            case "closed" -> knots.closed(a, b, c);
            case "order" -> knots.order(a);
            case "share" -> knots.share(a, b);
            case "make" -> knots.make(a);
            case "colours" -> knots.colours(a, b);
            case "path" -> knots.path(a, b);
            case "same" -> knots.same(a, b);
            case "year" -> knots.year(a, b);
            case "keep" -> knots.keep();
            case "back" -> knots.back();
            default -> knots.count(a);
        };
    }

    private int plainly(String name, int a, int b, int c, int d) {
        return switch (name) {
            case "write" -> plain.write(a);
            case "wipe" -> plain.wipe();
            case "fault" -> plain.fault();
            case "lay" -> plain.lay();
            case "cord" -> plain.cord(a, b);
            case "cluster" -> plain.cluster(a, b);
            case "group" -> plain.group(a, b);
            case "pendant" -> plain.pendant(a, b);
            case "tie" -> plain.tie(a, b);
            case "more" -> plain.more(a, b);
            case "knot" -> plain.knot(a, b, c, d);
            case "dye" -> plain.dye(a, b);
            case "hang" -> plain.hang(a, b);
            case "undo" -> plain.undo();
            case "wrong" -> plain.wrong(a);
            case "mend" -> plain.mend(a);
            case "slip" -> plain.slip(a, b);
            case "lost" -> plain.lost(a);
            case "closed" -> plain.closed(a, b, c);
            case "order" -> plain.order(a);
            case "share" -> plain.share(a, b);
            case "make" -> plain.make(a);
            case "colours" -> plain.colours(a, b);
            case "path" -> plain.path(a, b);
            case "same" -> plain.same(a, b);
            case "year" -> plain.year(a, b);
            case "keep" -> plain.keep();
            case "back" -> plain.back();
            default -> plain.count(a);
        };
    }
}
