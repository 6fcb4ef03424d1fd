import java.util.ArrayList;
import java.util.HashMap;
import java.util.List;
import java.util.Map;

/**
 * The document told once more, as plainly as can be: trees of cords, and every question answered by trying
 * all there is. The program is compared with it, so it shares no way of reckoning with the program.
 */
final class PlainKnots {
    static final int BAD = -1, NO = -2, FULL = -3, NONE = -4;

    static final class Knots {
        final int kind;
        final int count;

        Knots(int kind, int count) {
            this.kind = kind;
            this.count = count;
        }

        int code() {
            return 10 * kind + count;
        }

        int knots() {
            return kind == 3 ? 2 : count;
        }
    }

    static final class Cord {
        int number;
        int colour;
        Cord holder;
        /** As told: the first is the highest place. */
        List<Knots> told = new ArrayList<>();
        List<Cord> hanging = new ArrayList<>();
    }

    static final class Group {
        List<Cord> pendants = new ArrayList<>();
        Cord top;
    }

    static final class Fault extends RuntimeException {
        private static final long serialVersionUID = 1L;
        final int place;

        Fault(int place) {
            this.place = place;
        }
    }

    private static final class Parser {
        final String text;
        int next;
        int cords;

        Parser(String text) {
            this.text = text;
        }

        char look() {
            return next < text.length() ? text.charAt(next) : 0;
        }

        void demand(char letter) {
            if (look() != letter) {
                throw new Fault(next);
            }
            next++;
        }

        List<Group> groups() {
            List<Group> all = new ArrayList<>();
            while (next < text.length()) {
                if (all.size() == 5) {
                    throw new Fault(next);
                }
                demand('[');
                Group group = new Group();
                group.pendants.addAll(cords(null, 0));
                if (look() == '^') {
                    next++;
                    group.top = cord(null, 0);
                }
                demand(']');
                all.add(group);
            }
            return all;
        }

        List<Cord> cords(Cord holder, int depth) {
            List<Cord> all = new ArrayList<>();
            do {
                all.add(cord(holder, depth));
            } while (look() >= '0' && look() <= '9');
            return all;
        }

        Cord cord(Cord holder, int depth) {
            if (look() < '0' || look() > '9' || cords == 16) {
                throw new Fault(next);
            }
            Cord cord = new Cord();
            cord.number = cords++;
            cord.holder = holder;
            cord.colour = look() - '0';
            next++;
            do {
                cord.told.add(cluster());
            } while (cord.told.size() < 4 && ".sle".indexOf(look()) >= 0);
            if (look() == '(' && depth < 2) {
                next++;
                cord.hanging = cords(cord, depth + 1);
                demand(')');
            }
            return cord;
        }

        Knots cluster() {
            char kind = look();
            if (kind == '.' || kind == 'e') {
                next++;
                return kind == '.' ? new Knots(0, 0) : new Knots(3, 1);
            }
            if (kind != 's' && kind != 'l') {
                throw new Fault(next);
            }
            next++;
            if (look() < (kind == 's' ? '1' : '2') || look() > '9') {
                throw new Fault(next);
            }
            int count = look() - '0';
            next++;
            return new Knots(kind == 's' ? 1 : 2, count);
        }
    }

    private String text = "";
    private List<Group> groups;
    private final List<List<Group>> undone = new ArrayList<>();
    private final List<List<Group>> kept = new ArrayList<>();

    PlainKnots() {
        groups = new Parser(Texts.FIRST).groups();
    }

    // copies and numbers

    private static Cord copy(Cord cord, Cord holder) {
        Cord other = new Cord();
        other.number = cord.number;
        other.colour = cord.colour;
        other.holder = holder;
        other.told.addAll(cord.told);
        for (Cord below : cord.hanging) {
            other.hanging.add(copy(below, other));
        }
        return other;
    }

    private static List<Group> copy(List<Group> groups) {
        List<Group> all = new ArrayList<>();
        for (Group group : groups) {
            Group other = new Group();
            for (Cord cord : group.pendants) {
                other.pendants.add(copy(cord, null));
            }
            other.top = group.top == null ? null : copy(group.top, null);
            all.add(other);
        }
        return all;
    }

    private static void collect(Cord cord, Cord[] all) {
        all[cord.number] = cord;
        for (Cord below : cord.hanging) {
            collect(below, all);
        }
    }

    /** All cords by their numbers. */
    private List<Cord> cords() {
        Cord[] all = new Cord[16];
        for (Group group : groups) {
            for (Cord cord : group.pendants) {
                collect(cord, all);
            }
            if (group.top != null) {
                collect(group.top, all);
            }
        }
        List<Cord> found = new ArrayList<>();
        for (Cord cord : all) {
            if (cord != null) {
                found.add(cord);
            }
        }
        return found;
    }

    private Cord find(int c) {
        return c >= 0 && c < cords().size() ? cords().get(c) : null;
    }

    private Group find(Cord cord) {
        Cord root = cord;
        while (root.holder != null) {
            root = root.holder;
        }
        for (Group group : groups) {
            if (group.top == root || group.pendants.contains(root)) {
                return group;
            }
        }
        throw new IllegalStateException("a cord is in no group");
    }

    private boolean isTop(Cord cord) {
        return find(cord).top == cord;
    }

    private boolean isPlain(Cord cord) {
        return cord.holder == null && !isTop(cord);
    }

    private void remember() {
        undone.add(copy(groups));
        if (undone.size() > 8) {
            undone.remove(0);
        }
    }

    // what cords tell

    /** From the end on: the first is the ones. */
    private static List<Knots> fromEnd(List<Knots> told) {
        List<Knots> turned = new ArrayList<>();
        for (Knots knots : told) {
            turned.add(0, knots);
        }
        return turned;
    }

    private static long value(List<Knots> fromOnes) {
        long value = 0;
        long unit = 1;
        for (int i = 0; i < fromOnes.size(); i++) {
            int kind = fromOnes.get(i).kind;
            if (i == 0 && kind == 1 || i > 0 && kind > 1) {
                return NONE;
            }
            value += unit * fromOnes.get(i).count;
            unit *= 10;
        }
        return value;
    }

    private static int value(Cord cord) {
        return (int) value(fromEnd(cord.told));
    }

    private static int whole(Cord cord) {
        int whole = value(cord);
        for (Cord below : cord.hanging) {
            if (whole == NONE || whole(below) == NONE) {
                return NONE;
            }
            whole += whole(below);
        }
        return whole;
    }

    private static int sum(Group group) {
        int sum = 0;
        for (Cord cord : group.pendants) {
            if (whole(cord) == NONE) {
                return NONE;
            }
            sum += whole(cord);
        }
        return sum;
    }

    private static boolean comparable(Group group) {
        return group.top != null && whole(group.top) != NONE && sum(group) != NONE;
    }

    private static boolean right(Group group) {
        return comparable(group) && sum(group) == whole(group.top);
    }

    private static int knots(Cord cord) {
        int knots = 0;
        for (Knots one : cord.told) {
            knots += one.knots();
        }
        return knots;
    }

    /** As many clusters as it takes for a value, from the highest place on; null if they are too few. */
    private static List<Knots> tied(int clusters, int v) {
        String figures = Integer.toString(v);
        if (figures.length() > clusters) {
            return null;
        }
        String padded = "0".repeat(clusters - figures.length()) + figures;
        List<Knots> told = new ArrayList<>();
        for (int i = 0; i < clusters; i++) {
            int figure = padded.charAt(i) - '0';
            boolean ones = i == clusters - 1;
            told.add(new Knots(figure == 0 ? 0 : !ones ? 1 : figure == 1 ? 3 : 2, figure));
        }
        return told;
    }

    private static int work(List<Knots> is, List<Knots> then) {
        int work = 0;
        for (int i = 0; i < is.size(); i++) {
            if (is.get(i).code() != then.get(i).code()) {
                work += is.get(i).knots() + then.get(i).knots();
            }
        }
        return work;
    }

    // the calls

    int write(int letter) {
        if (letter < 32 || letter > 126) {
            return BAD;
        }
        if (text.length() == 200) {
            return FULL;
        }
        text += (char) letter;
        return text.length();
    }

    int wipe() {
        int was = text.length();
        text = "";
        return was;
    }

    int fault() {
        try {
            new Parser(text).groups();
            return NONE;
        } catch (Fault fault) {
            return fault.place;
        }
    }

    int lay() {
        if (text.isEmpty() || fault() != NONE) {
            return NO;
        }
        groups = new Parser(text).groups();
        undone.clear();
        kept.clear();
        return cords().size();
    }

    int cord(int c, int what) {
        Cord cord = find(c);
        if (cord == null || what < 0 || what > 10) {
            return BAD;
        }
        int depth = cord.holder == null ? 0 : cord.holder.holder == null ? 1 : 2;
        int[] answers = {cord.colour, cord.told.size(), cord.holder == null ? NONE : cord.holder.number,
            groups.indexOf(find(cord)), depth, cord.hanging.size(), isTop(cord) ? 1 : 0, value(cord), whole(cord),
            (int) value(cord.told), knots(cord)};
        return answers[what];
    }

    int cluster(int c, int k) {
        Cord cord = find(c);
        return cord == null || k < 0 || k >= cord.told.size() ? BAD : fromEnd(cord.told).get(k).code();
    }

    int group(int g, int what) {
        if (g < 0 || g >= groups.size() || what < 0 || what > 3) {
            return BAD;
        }
        Group group = groups.get(g);
        int[] answers = {group.pendants.size(), group.top == null ? NONE : group.top.number, sum(group),
            right(group) ? 1 : 0};
        return answers[what];
    }

    int pendant(int g, int k) {
        if (g < 0 || g >= groups.size() || k < 0) {
            return BAD;
        }
        List<Cord> pendants = groups.get(g).pendants;
        return k < pendants.size() ? pendants.get(k).number : NONE;
    }

    int tie(int c, int v) {
        if (find(c) == null || v < 0) {
            return BAD;
        }
        List<Knots> then = tied(find(c).told.size(), v);
        if (then == null) {
            return NO;
        }
        int work = work(find(c).told, then);
        remember();
        find(c).told = then;
        return work;
    }

    int more(int c, int n) {
        if (find(c) == null || n < -9999 || n > 9999) {
            return BAD;
        }
        int value = value(find(c));
        if (value == NONE || value + n < 0 || tied(find(c).told.size(), value + n) == null) {
            return NO;
        }
        tie(c, value + n);
        return value + n;
    }

    int knot(int c, int k, int kind, int n) {
        int[] least = {0, 1, 2, 1};
        int[] most = {0, 9, 9, 1};
        if (cluster(c, k) == BAD || kind < 0 || kind > 3 || n < least[kind] || n > most[kind]) {
            return BAD;
        }
        remember();
        List<Knots> told = find(c).told;
        told.set(told.size() - 1 - k, new Knots(kind, n));
        return knots(find(c));
    }

    int dye(int c, int colour) {
        if (find(c) == null || colour < 0 || colour > 9) {
            return BAD;
        }
        remember();
        int was = find(c).colour;
        find(c).colour = colour;
        return was;
    }

    int hang(int c, int g) {
        Cord cord = find(c);
        if (cord == null || g < 0 || g >= groups.size()) {
            return BAD;
        }
        if (!isPlain(cord) || find(cord) == groups.get(g) || find(cord).pendants.size() == 1) {
            return NO;
        }
        remember();
        find(cord).pendants.remove(cord);
        groups.get(g).pendants.add(cord);
        return groups.get(g).pendants.size();
    }

    int undo() {
        if (undone.isEmpty()) {
            return NO;
        }
        groups = undone.remove(undone.size() - 1);
        return undone.size();
    }

    int wrong(int g) {
        if (g < 0 || g >= groups.size()) {
            return BAD;
        }
        Group group = groups.get(g);
        return comparable(group) ? sum(group) - whole(group.top) + 100000 : NONE;
    }

    private static List<Cord> withTop(Group group) {
        List<Cord> all = new ArrayList<>(group.pendants);
        if (group.top != null) {
            all.add(group.top);
        }
        all.sort((a, b) -> Integer.compare(a.number, b.number));
        return all;
    }

    /** The least for every excess that can come about, cluster by cluster. */
    int mend(int g) {
        if (g < 0 || g >= groups.size()) {
            return BAD;
        }
        Group group = groups.get(g);
        if (!comparable(group)) {
            return NONE;
        }
        Map<Integer, Integer> least = new HashMap<>();
        least.put(sum(group) - whole(group.top), 0);
        for (Cord cord : withTop(group)) {
            List<Knots> clusters = fromEnd(cord.told);
            int unit = cord == group.top ? -1 : 1;
            for (Knots knots : clusters) {
                Map<Integer, Integer> then = new HashMap<>();
                for (Map.Entry<Integer, Integer> one : least.entrySet()) {
                    for (int n = 0; n <= 9; n++) {
                        then.merge(one.getKey() + unit * (n - knots.count),
                            one.getValue() + Math.abs(n - knots.count), Math::min);
                    }
                }
                least = then;
                unit *= 10;
            }
        }
        return least.getOrDefault(0, NONE);
    }

    int slip(int g, int what) {
        if (g < 0 || g >= groups.size() || what < 0 || what > 1) {
            return BAD;
        }
        int ways = 0;
        int first = NONE;
        Group group = groups.get(g);
        if (comparable(group)) {
            for (Cord cord : withTop(group)) {
                List<Knots> was = cord.told;
                int size = was.size();
                for (int k = 0; k < size; k++) {
                    for (int n = 0; n <= 9; n++) {
                        Knots old = was.get(size - 1 - k);
                        int kind = n == 0 ? 0 : k > 0 ? 1 : n == 1 ? 3 : 2;
                        cord.told = new ArrayList<>(was);
                        cord.told.set(size - 1 - k, new Knots(kind, n));
                        if (n != old.count && right(group)) {
                            ways++;
                            first = first == NONE ? 100 * cord.number + 10 * k + n : first;
                        }
                        cord.told = was;
                    }
                }
            }
        }
        return what == 0 ? ways : first;
    }

    int lost(int c) {
        Cord cord = find(c);
        if (cord == null) {
            return BAD;
        }
        if (!isPlain(cord)) {
            return NO;
        }
        List<Knots> was = cord.told;
        cord.told = tied(4, 0);
        Group group = find(cord);
        int answer = NONE;
        if (comparable(group)) {
            int without = sum(group);
            for (int v = 0; v <= 9999; v++) {
                answer = without + v == whole(group.top) ? v : answer;
            }
        }
        cord.told = was;
        return answer;
    }

    int closed(int c, int p, int what) {
        Cord cord = find(c);
        if (cord == null || p < 1 || p > 6 || what < 0 || what > 1) {
            return BAD;
        }
        List<Knots> tied = fromEnd(cord.told);
        tied.removeIf(knots -> knots.kind == 0);
        int ways = 0;
        long least = NONE;
        for (int places = 0; places < 1 << p; places++) {
            if (Integer.bitCount(places) == tied.size()) {
                List<Knots> put = new ArrayList<>();
                int next = 0;
                for (int place = 0; place < p; place++) {
                    put.add((places >> place & 1) == 1 ? tied.get(next++) : new Knots(0, 0));
                }
                long value = value(put);
                if (value != NONE) {
                    ways++;
                    least = least == NONE ? value : Math.min(least, value);
                }
            }
        }
        return what == 0 ? ways : (int) least;
    }

    /** All sets of pendants that could stay where they are. */
    int order(int g) {
        if (g < 0 || g >= groups.size()) {
            return BAD;
        }
        List<Cord> pendants = groups.get(g).pendants;
        int most = 0;
        for (int staying = 0; staying < 1 << pendants.size(); staying++) {
            int ahead = 0;
            boolean rises = true;
            for (int i = 0; i < pendants.size(); i++) {
                int value = value(pendants.get(i));
                if (value == NONE) {
                    return NONE;
                }
                if ((staying >> i & 1) == 1) {
                    rises = rises && value >= ahead;
                    ahead = value;
                }
            }
            most = rises ? Math.max(most, Integer.bitCount(staying)) : most;
        }
        return pendants.size() - most;
    }

    int share(int g, int what) {
        if ((g < 0 || g >= groups.size()) && g != 5 || what < 0 || what > 1) {
            return BAD;
        }
        int[] values = new int[16];
        int members = 0;
        for (Group group : groups) {
            if (g == 5 || group == groups.get(g)) {
                for (Cord cord : group.pendants) {
                    if (value(cord) == NONE) {
                        return NONE;
                    }
                    members |= 1 << cord.number;
                    values[cord.number] = value(cord);
                }
            }
        }
        int set = 0;
        int least = Integer.MAX_VALUE;
        for (int tried = 0; tried < 1 << 16; tried++) {
            if ((tried & ~members) == 0) {
                int unlike = 0;
                for (int i = 0; i < 16; i++) {
                    unlike += (tried >> i & 1) == 1 ? values[i] : -values[i];
                }
                if (Math.abs(unlike) < least) {
                    least = Math.abs(unlike);
                    set = tried;
                }
            }
        }
        return what == 0 ? set : least;
    }

    int make(int v) {
        if (v < 0 || v > 9999) {
            return BAD;
        }
        int[] values = new int[16];
        int members = 0;
        for (Cord cord : cords()) {
            if (isPlain(cord) && value(cord) != NONE) {
                members |= 1 << cord.number;
                values[cord.number] = value(cord);
            }
        }
        int set = NONE;
        for (int tried = 0; tried < 1 << 16; tried++) {
            if ((tried & ~members) == 0 && (set == NONE || Integer.bitCount(tried) < Integer.bitCount(set))) {
                int sum = 0;
                for (int i = 0; i < 16; i++) {
                    sum += (tried >> i & 1) * values[i];
                }
                set = sum == v ? tried : set;
            }
        }
        return set;
    }

    int colours(int x, int what) {
        if (x < 0 || x > 9 || what < 0 || what > 1) {
            return BAD;
        }
        int together = 0;
        int many = 0;
        for (Cord cord : cords()) {
            if (cord.colour == x) {
                many++;
                together += value(cord) == NONE ? 0 : value(cord);
            }
        }
        return what == 0 ? together : many;
    }

    int path(int x, int y) {
        if (x < 0 || x > 9 || y < 0 || y > 9) {
            return BAD;
        }
        int together = 0;
        for (Cord cord : cords()) {
            for (Cord below : cord.hanging) {
                if (cord.colour == x && below.colour == y && value(below) != NONE) {
                    together += value(below);
                }
            }
        }
        return together;
    }

    private static String drawing(Cord cord) {
        StringBuilder drawn = new StringBuilder();
        drawn.append(cord.colour).append(':');
        for (Knots knots : cord.told) {
            drawn.append(knots.code()).append(',');
        }
        for (Cord below : cord.hanging) {
            drawn.append('(').append(drawing(below)).append(')');
        }
        return drawn.toString();
    }

    int same(int a, int b) {
        if (find(a) == null || find(b) == null || a == b) {
            return BAD;
        }
        return drawing(find(a)).equals(drawing(find(b))) ? 1 : 0;
    }

    int year(int z, int what) {
        if (z < 0 || z > 9999 || what < 0 || what > 1) {
            return BAD;
        }
        int work = 0;
        int values = 0;
        for (Cord cord : cords()) {
            if (isPlain(cord) && value(cord) != NONE) {
                long x = (7919L * z + 6151L * cord.number + 1) % 65521;
                int then = value(cord) + (int) (x * x % 65521 / 8 % 21) - 10;
                then = then < 0 ? 0 : then;
                while (tied(cord.told.size(), then) == null) {
                    then--;
                }
                work += work(cord.told, tied(cord.told.size(), then));
                values += then;
            }
        }
        return what == 0 ? work : values;
    }

    int keep() {
        if (kept.size() == 2) {
            return FULL;
        }
        kept.add(copy(groups));
        return kept.size();
    }

    int back() {
        if (kept.isEmpty()) {
            return NO;
        }
        groups = kept.remove(kept.size() - 1);
        undone.clear();
        return kept.size();
    }

    int count(int what) {
        if (what < 0 || what > 7) {
            return BAD;
        }
        int tops = 0;
        for (Group group : groups) {
            tops += group.top == null ? 0 : 1;
        }
        int well = 0;
        int knots = 0;
        for (Cord cord : cords()) {
            well += value(cord) == NONE ? 0 : 1;
            knots += knots(cord);
        }
        int[] answers = {cords().size(), groups.size(), tops, well, knots, undone.size(), kept.size(), text.length()};
        return answers[what];
    }
}
