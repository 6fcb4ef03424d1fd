import java.util.Arrays;

/** Bundles of knotted cords, told in a text. DOC.md says, promise by promise, what each call answers. */
public final class ToldInKnots {
    public static final int BAD = -1, NO = -2, FULL = -3, NONE = -4;

    private static final int MOST_LETTERS = 200;
    private static final int MOST_GROUPS = 5;
    private static final int MOST_CORDS = 16;
    private static final int MOST_CLUSTERS = 4;
    private static final int DEEPEST = 2;
    private static final int MOST_UNDONE = 8;
    private static final int MOST_KEPT = 2;
    private static final int MOST_PLACES = 6;
    private static final int HIGHEST = 9999;
    private static final int ALL_GROUPS = 5;

    private static final int GAP = 0, SINGLE = 1, LONG = 2, EIGHT = 3;
    private static final int[] TENS = {1, 10, 100, 1000, 10000};

    private static final String FIRST_TEXT = "[1s2.l3(4e)2s1e^3s3.l4][1l5(2l2(7.))]";

    private final char[] letters = new char[MOST_LETTERS];
    private int length;
    private final Reader reader = new Reader();
    private final Bundle bundle = new Bundle();
    private final Shelf undone = new Shelf(MOST_UNDONE);
    private final Shelf kept = new Shelf(MOST_KEPT);
    private final Sets sets = new Sets();
    private final int[] up = new int[MOST_CLUSTERS];
    private final int[] down = new int[MOST_CLUSTERS];
    private final int[] lined = new int[MOST_CORDS];
    private final int[] runs = new int[MOST_CORDS];

    public ToldInKnots() {
        reader.read(FIRST_TEXT.toCharArray(), FIRST_TEXT.length());
        bundle.becomeAs(reader.draft.row);
    }

    // ---- bundles

    public int write(int letter) {
        if (letter < 32 || letter > 126) {
            return BAD;
        }
        if (length < 0 || length >= letters.length) {
            return FULL;
        }
        letters[length] = (char) letter;
        length++;
        return length;
    }

    public int wipe() {
        int was = length;
        length = 0;
        return was;
    }

    public int fault() {
        return reader.read(letters, length);
    }

    public int lay() {
        if (length == 0 || reader.read(letters, length) != NONE) {
            return NO;
        }
        bundle.becomeAs(reader.draft.row);
        undone.clear();
        kept.clear();
        return bundle.cords();
    }

    public int cord(int c, int what) {
        if (!bundle.hasCord(c)) {
            return BAD;
        }
        switch (what) {
            case 0: return bundle.colourOf(c);
            case 1: return bundle.sizeOf(c);
            case 2: return bundle.holderOf(c);
            case 3: return bundle.groupOf(c);
            case 4: return bundle.depthOf(c);
            case 5: return bundle.hangingFrom(c);
            case 6: return bundle.isTop(c) ? 1 : 0;
            case 7: return bundle.valueOf(c);
            case 8: return bundle.wholeOf(c);
            case 9: return bundle.valueFromOtherEnd(c);
            case 10: return bundle.knotsOf(c);
            default: return BAD;
        }
    }

    public int cluster(int c, int k) {
        return bundle.hasCluster(c, k) ? bundle.codeOf(c, k) : BAD;
    }

    public int group(int g, int what) {
        if (!bundle.hasGroup(g)) {
            return BAD;
        }
        switch (what) {
            case 0: return bundle.pendantsIn(g);
            case 1: return bundle.topOf(g);
            case 2: return bundle.sumOf(g);
            case 3: return bundle.canBeCompared(g) && bundle.excessOf(g) == 0 ? 1 : 0;
            default: return BAD;
        }
    }

    public int pendant(int g, int k) {
        return bundle.hasGroup(g) && k >= 0 ? bundle.pendantAt(g, k) : BAD;
    }

    // ---- changes

    public int tie(int c, int v) {
        if (!bundle.hasCord(c) || v < 0) {
            return BAD;
        }
        if (v > bundle.mostOn(c)) {
            return NO;
        }
        int work = bundle.workToTell(c, v);
        undone.add(bundle.row);
        bundle.tell(c, v);
        return work;
    }

    public int more(int c, int n) {
        if (!bundle.hasCord(c) || n < -HIGHEST || n > HIGHEST) {
            return BAD;
        }
        int value = bundle.valueOf(c);
        if (value == NONE || value + n < 0 || value + n > bundle.mostOn(c)) {
            return NO;
        }
        undone.add(bundle.row);
        bundle.tell(c, value + n);
        return value + n;
    }

    public int knot(int c, int k, int kind, int n) {
        if (!bundle.hasCluster(c, k) || !canCount(kind, n)) {
            return BAD;
        }
        undone.add(bundle.row);
        bundle.setCode(c, k, 10 * kind + n);
        return bundle.knotsOf(c);
    }

    public int dye(int c, int colour) {
        if (!bundle.hasCord(c) || !isColour(colour)) {
            return BAD;
        }
        int was = bundle.colourOf(c);
        undone.add(bundle.row);
        bundle.setColour(c, colour);
        return was;
    }

    public int hang(int c, int g) {
        if (!bundle.hasCord(c) || !bundle.hasGroup(g)) {
            return BAD;
        }
        int from = bundle.groupOf(c);
        if (!bundle.isPlainPendant(c) || from == g || bundle.pendantsIn(from) <= 1) {
            return NO;
        }
        undone.add(bundle.row);
        bundle.moveBehind(c, g);
        return bundle.pendantsIn(g);
    }

    public int undo() {
        if (undone.used == 0) {
            return NO;
        }
        undone.takeInto(bundle.row);
        return undone.used;
    }

    // ---- groups that are wrong

    public int wrong(int g) {
        if (!bundle.hasGroup(g)) {
            return BAD;
        }
        return bundle.canBeCompared(g) ? bundle.excessOf(g) + 100000 : NONE;
    }

    public int mend(int g) {
        if (!bundle.hasGroup(g)) {
            return BAD;
        }
        if (!bundle.canBeCompared(g)) {
            return NONE;
        }
        measureRoom(g);
        return leastMoves(up, down, 0, -bundle.excessOf(g));
    }

    public int slip(int g, int what) {
        if (!bundle.hasGroup(g) || what < 0 || what > 1) {
            return BAD;
        }
        int ways = 0;
        int first = NONE;
        if (bundle.canBeCompared(g)) {
            int excess = bundle.excessOf(g);
            for (int c = 0; c < bundle.cords(); c++) {
                for (int k = 0; k < bundle.sizeOf(c); k++) {
                    int number = bundle.isIn(c, g) ? slipAt(c, k, excess) : NONE;
                    if (number != NONE) {
                        ways++;
                        first = first == NONE ? 100 * c + 10 * k + number : first;
                    }
                }
            }
        }
        return what == 0 ? ways : first;
    }

    public int lost(int c) {
        if (!bundle.hasCord(c)) {
            return BAD;
        }
        if (!bundle.isPlainPendant(c)) {
            return NO;
        }
        int g = bundle.groupOf(c);
        int left = bundle.topOf(g) == NONE ? NONE : bundle.wholeOf(bundle.topOf(g));
        if (left == NONE) {
            return NONE;
        }
        for (int d = 0; d < bundle.cords(); d++) {
            boolean counts = bundle.isPlainPendant(bundle.pendantAbove(d)) && bundle.groupOf(d) == g;
            if (counts && d != c) {
                int value = bundle.valueOf(d);
                if (value == NONE) {
                    return NONE;
                }
                left -= value;
            }
        }
        return left >= 0 && left <= HIGHEST ? left : NONE;
    }

    public int closed(int c, int p, int what) {
        if (!bundle.hasCord(c) || p < 1 || p > MOST_PLACES || what < 0 || what > 1) {
            return BAD;
        }
        int least = 0;
        int singles = 0;
        boolean fits = true;
        for (int k = 0; k < bundle.sizeOf(c); k++) {
            int code = bundle.codeOf(c, k);
            if (kindOf(code) == SINGLE) {
                singles++;
                least += countOf(code) * tens(singles);
            } else if (kindOf(code) != GAP) {
                // a long knot or an eight can be at the ones alone, with nothing put before it
                fits = fits && least == 0;
                least += countOf(code);
            }
        }
        // singles can be at any place but the ones
        int ways = fits ? choices(p - 1, singles) : 0;
        if (what == 0) {
            return ways;
        }
        return ways == 0 ? NONE : least;
    }

    // ---- order, shares

    public int order(int g) {
        if (!bundle.hasGroup(g)) {
            return BAD;
        }
        int members = bundle.pendantsIn(g);
        int longest = 0;
        for (int i = 0; i < members; i++) {
            int value = bundle.valueOf(bundle.pendantAt(g, i));
            if (value == NONE) {
                return NONE;
            }
            int run = 1;
            for (int j = 0; j < i; j++) {
                run = at(lined, j) <= value ? Math.max(run, at(runs, j) + 1) : run;
            }
            put(lined, i, value);
            put(runs, i, run);
            longest = Math.max(longest, run);
        }
        return members - longest;
    }

    public int share(int g, int what) {
        if ((g != ALL_GROUPS && !bundle.hasGroup(g)) || what < 0 || what > 1) {
            return BAD;
        }
        sets.clear();
        for (int c = 0; c < bundle.cords(); c++) {
            if (bundle.isPlainPendant(c) && (g == ALL_GROUPS || bundle.groupOf(c) == g)) {
                int value = bundle.valueOf(c);
                if (value == NONE) {
                    return NONE;
                }
                sets.add(c, value);
            }
        }
        sets.findEvenest();
        return what == 0 ? sets.found : sets.unlike;
    }

    public int make(int v) {
        if (v < 0 || v > HIGHEST) {
            return BAD;
        }
        sets.clear();
        for (int c = 0; c < bundle.cords(); c++) {
            if (bundle.isPlainPendant(c) && bundle.valueOf(c) != NONE) {
                sets.add(c, bundle.valueOf(c));
            }
        }
        sets.findFewest(v);
        return sets.found;
    }

    // ---- colours

    public int colours(int x, int what) {
        if (!isColour(x) || what < 0 || what > 1) {
            return BAD;
        }
        int together = 0;
        int many = 0;
        for (int c = 0; c < bundle.cords(); c++) {
            if (bundle.colourOf(c) == x) {
                many++;
                together += bundle.told(c);
            }
        }
        return what == 0 ? together : many;
    }

    public int path(int x, int y) {
        if (!isColour(x) || !isColour(y)) {
            return BAD;
        }
        int together = 0;
        for (int c = 0; c < bundle.cords(); c++) {
            int holder = bundle.holderOf(c);
            if (holder != NONE && bundle.colourOf(holder) == x && bundle.colourOf(c) == y) {
                together += bundle.told(c);
            }
        }
        return together;
    }

    public int same(int a, int b) {
        if (!bundle.hasCord(a) || !bundle.hasCord(b) || a == b) {
            return BAD;
        }
        // cords are numbered from above, so what hangs from one comes next behind it:
        // it hangs alike where the depths go alike
        int under = bundle.cordsFrom(a);
        boolean alike = under == bundle.cordsFrom(b);
        int deeper = bundle.depthOf(b) - bundle.depthOf(a);
        for (int i = 0; alike && i < under; i++) {
            alike = bundle.looksLike(a + i, b + i)
                && bundle.depthOf(b + i) - bundle.depthOf(a + i) == deeper;
        }
        return alike ? 1 : 0;
    }

    public int year(int z, int what) {
        if (z < 0 || z > HIGHEST || what < 0 || what > 1) {
            return BAD;
        }
        int work = 0;
        int values = 0;
        for (int c = 0; c < bundle.cords(); c++) {
            int value = bundle.isPlainPendant(c) ? bundle.valueOf(c) : NONE;
            if (value != NONE) {
                int then = Math.min(Math.max(value + drawn(z, c), 0), bundle.mostOn(c));
                work += bundle.workToTell(c, then);
                values += then;
            }
        }
        return what == 0 ? work : values;
    }

    public int keep() {
        if (kept.used >= MOST_KEPT) {
            return FULL;
        }
        kept.add(bundle.row);
        return kept.used;
    }

    public int back() {
        if (kept.used == 0) {
            return NO;
        }
        kept.takeInto(bundle.row);
        undone.clear();
        return kept.used;
    }

    public int count(int what) {
        switch (what) {
            case 0: return bundle.cords();
            case 1: return bundle.groups();
            case 2: return bundle.tops();
            case 3: return bundle.wellKnotted();
            case 4: return bundle.allKnots();
            case 5: return undone.used;
            case 6: return kept.used;
            case 7: return length;
            default: return BAD;
        }
    }

    // ---- what the calls share

    /** How much the clusters of a group can take its sum above that of its top, and below, by places. */
    private void measureRoom(int g) {
        Arrays.fill(up, 0);
        Arrays.fill(down, 0);
        for (int c = 0; c < bundle.cords(); c++) {
            for (int k = 0; bundle.isIn(c, g) && k < bundle.sizeOf(c); k++) {
                int counts = countOf(bundle.codeOf(c, k));
                int higher = bundle.isTop(c) ? counts : 9 - counts;
                put(up, k, at(up, k) + higher);
                put(down, k, at(down, k) + 9 - higher);
            }
        }
    }

    /** The fewest knots, from a place on, that come to the rest, told in units of that place. */
    private static int leastMoves(int[] up, int[] down, int place, int rest) {
        int lowest = -at(down, place);
        int highest = at(up, place);
        if (place >= MOST_CLUSTERS - 1) {
            return rest >= lowest && rest <= highest ? Math.abs(rest) : NONE;
        }
        int best = NONE;
        // only moves that leave a multiple of ten can be made up for by the places above
        for (int move = lowest + Math.floorMod(rest - lowest, 10); move <= highest; move += 10) {
            int above = leastMoves(up, down, place + 1, (rest - move) / 10);
            int moves = above + Math.abs(move);
            if (above != NONE && (best == NONE || moves < best)) {
                best = moves;
            }
        }
        return best;
    }

    /** The other number that this cluster would have to count, so that the excess went; NONE. */
    private int slipAt(int c, int k, int excess) {
        int unit = tens(k);
        int counts = countOf(bundle.codeOf(c, k));
        for (int number = 0; number <= 9; number++) {
            int added = (number - counts) * unit;
            if (number != counts && excess + (bundle.isTop(c) ? -added : added) == 0) {
                return number;
            }
        }
        return NONE;
    }

    private static int drawn(int z, int c) {
        long x = 7919L * z + 6151L * c + 1;
        long draw = x * x % 65521 / 8;
        return (int) (draw % 21) - 10;
    }

    /** In how many ways so many of the places, five at most, can be chosen. */
    private static int choices(int places, int chosen) {
        int ways = 0;
        for (int set = 0; set < 1 << places; set++) {
            ways += Integer.bitCount(set) == chosen ? 1 : 0;
        }
        return ways;
    }

    private static boolean isColour(int x) {
        return x >= 0 && x <= 9;
    }

    private static boolean canCount(int kind, int n) {
        switch (kind) {
            case GAP: return n == 0;
            case SINGLE: return n >= 1 && n <= 9;
            case LONG: return n >= 2 && n <= 9;
            case EIGHT: return n == 1;
            default: return false;
        }
    }

    /** A cluster is held as the number that the call cluster tells: ten times its kind, and what it counts. */
    private static int kindOf(int code) {
        return code / 10;
    }

    private static int countOf(int code) {
        return code % 10;
    }

    private static int knotsIn(int code) {
        return kindOf(code) == EIGHT ? 2 : countOf(code);
    }

    private static int codeToTell(int figure, int place) {
        if (figure == 0) {
            return 10 * GAP;
        }
        if (place > 0) {
            return 10 * SINGLE + figure;
        }
        return 10 * (figure == 1 ? EIGHT : LONG) + figure;
    }

    private static boolean isWellPlaced(int code, int place) {
        int kind = kindOf(code);
        return kind == GAP || (kind == SINGLE) == (place > 0);
    }

    private static int tens(int place) {
        return place >= 0 && place < TENS.length ? TENS[place] : 0;
    }

    private static int at(int[] row, int i) {
        return i >= 0 && i < row.length ? row[i] : 0;
    }

    private static void put(int[] row, int i, int number) {
        if (i >= 0 && i < row.length) {
            row[i] = number;
        }
    }

    private static void copyRow(int[] from, int start, int[] to, int goal) {
        boolean stands = start >= 0 && start + Bundle.LENGTH <= from.length
            && goal >= 0 && goal + Bundle.LENGTH <= to.length;
        if (stands) {
            System.arraycopy(from, start, to, goal, Bundle.LENGTH);
        }
    }

    /** What is laid. All of it stands in one row, so that one copy lays it aside or brings it back. */
    private static final class Bundle {
        private static final int COLOURS = 0;
        private static final int SIZES = COLOURS + MOST_CORDS;
        private static final int HOLDERS = SIZES + MOST_CORDS;
        private static final int DEPTHS = HOLDERS + MOST_CORDS;
        private static final int TOPS = DEPTHS + MOST_CORDS;
        private static final int IN_GROUPS = TOPS + MOST_CORDS;
        /** Pendants that are no tops, those of a group in the order in which they hang there. */
        private static final int LINE = IN_GROUPS + MOST_CORDS;
        private static final int CODES = LINE + MOST_CORDS;
        private static final int CORD_COUNT = CODES + MOST_CORDS * MOST_CLUSTERS;
        private static final int GROUP_COUNT = CORD_COUNT + 1;
        private static final int LINE_COUNT = GROUP_COUNT + 1;
        private static final int LENGTH = LINE_COUNT + 1;

        private final int[] row = new int[LENGTH];

        void becomeAs(int[] other) {
            copyRow(other, 0, row, 0);
        }

        void clear() {
            Arrays.fill(row, 0);
        }

        int cords() {
            return at(row, CORD_COUNT);
        }

        int groups() {
            return at(row, GROUP_COUNT);
        }

        boolean hasCord(int c) {
            return c >= 0 && c < cords();
        }

        boolean hasCluster(int c, int k) {
            return hasCord(c) && k >= 0 && k < sizeOf(c);
        }

        boolean hasGroup(int g) {
            return g >= 0 && g < groups();
        }

        // what is on a cord

        int colourOf(int c) {
            return at(row, COLOURS + c);
        }

        void setColour(int c, int colour) {
            put(row, COLOURS + c, colour);
        }

        int sizeOf(int c) {
            return at(row, SIZES + c);
        }

        int codeOf(int c, int k) {
            return at(row, CODES + MOST_CLUSTERS * c + k);
        }

        void setCode(int c, int k, int code) {
            put(row, CODES + MOST_CLUSTERS * c + k, code);
        }

        int valueOf(int c) {
            int value = 0;
            for (int k = 0; k < sizeOf(c); k++) {
                int code = codeOf(c, k);
                if (!isWellPlaced(code, k)) {
                    return NONE;
                }
                value += countOf(code) * tens(k);
            }
            return value;
        }

        int valueFromOtherEnd(int c) {
            int value = 0;
            int size = sizeOf(c);
            for (int place = 0; place < size; place++) {
                int code = codeOf(c, size - 1 - place);
                if (!isWellPlaced(code, place)) {
                    return NONE;
                }
                value += countOf(code) * tens(place);
            }
            return value;
        }

        /** What a cord tells to a sum over well knotted ones. */
        int told(int c) {
            return Math.max(valueOf(c), 0);
        }

        int mostOn(int c) {
            return tens(sizeOf(c)) - 1;
        }

        int knotsOf(int c) {
            int knots = 0;
            for (int k = 0; k < sizeOf(c); k++) {
                knots += knotsIn(codeOf(c, k));
            }
            return knots;
        }

        int workToTell(int c, int v) {
            int work = 0;
            int rest = v;
            for (int k = 0; k < sizeOf(c); k++) {
                int is = codeOf(c, k);
                int then = codeToTell(rest % 10, k);
                work += is == then ? 0 : knotsIn(is) + knotsIn(then);
                rest /= 10;
            }
            return work;
        }

        void tell(int c, int v) {
            int rest = v;
            for (int k = 0; k < sizeOf(c); k++) {
                setCode(c, k, codeToTell(rest % 10, k));
                rest /= 10;
            }
        }

        boolean looksLike(int a, int b) {
            boolean alike = colourOf(a) == colourOf(b) && sizeOf(a) == sizeOf(b);
            for (int k = 0; alike && k < sizeOf(a); k++) {
                alike = codeOf(a, k) == codeOf(b, k);
            }
            return alike;
        }

        // what hangs where

        int holderOf(int c) {
            return c >= 0 && c < MOST_CORDS ? at(row, HOLDERS + c) : NONE;
        }

        int depthOf(int c) {
            return at(row, DEPTHS + c);
        }

        int groupOf(int c) {
            return at(row, IN_GROUPS + c);
        }

        boolean isTop(int c) {
            return at(row, TOPS + c) == 1;
        }

        boolean isPlainPendant(int c) {
            return hasCord(c) && depthOf(c) == 0 && !isTop(c);
        }

        /** Whether it hangs from the group itself, be it the top or not. */
        boolean isIn(int c, int g) {
            return depthOf(c) == 0 && groupOf(c) == g;
        }

        boolean isFrom(int c, int above) {
            int holder = holderOf(c);
            return c == above || holder == above || (holder != NONE && holderOf(holder) == above);
        }

        int pendantAbove(int c) {
            int above = c;
            for (int level = 0; level < DEEPEST && holderOf(above) != NONE; level++) {
                above = holderOf(above);
            }
            return above;
        }

        int hangingFrom(int c) {
            int many = 0;
            for (int d = 0; d < cords(); d++) {
                many += holderOf(d) == c ? 1 : 0;
            }
            return many;
        }

        /** How many it is with all beneath it. */
        int cordsFrom(int c) {
            int many = 0;
            for (int d = 0; d < cords(); d++) {
                many += isFrom(d, c) ? 1 : 0;
            }
            return many;
        }

        int wholeOf(int c) {
            int whole = 0;
            for (int d = 0; d < cords(); d++) {
                if (isFrom(d, c)) {
                    int value = valueOf(d);
                    if (value == NONE) {
                        return NONE;
                    }
                    whole += value;
                }
            }
            return whole;
        }

        int pendantsIn(int g) {
            int many = 0;
            for (int i = 0; i < at(row, LINE_COUNT); i++) {
                many += groupOf(at(row, LINE + i)) == g ? 1 : 0;
            }
            return many;
        }

        int pendantAt(int g, int k) {
            int ahead = 0;
            for (int i = 0; i < at(row, LINE_COUNT); i++) {
                int c = at(row, LINE + i);
                if (groupOf(c) == g) {
                    if (ahead == k) {
                        return c;
                    }
                    ahead++;
                }
            }
            return NONE;
        }

        void moveBehind(int c, int g) {
            int staying = 0;
            int all = at(row, LINE_COUNT);
            for (int i = 0; i < all; i++) {
                int other = at(row, LINE + i);
                if (other != c) {
                    put(row, LINE + staying, other);
                    staying++;
                }
            }
            put(row, LINE + staying, c);
            for (int d = 0; d < cords(); d++) {
                if (isFrom(d, c)) {
                    put(row, IN_GROUPS + d, g);
                }
            }
        }

        // groups and their tops

        int topOf(int g) {
            for (int c = 0; c < cords(); c++) {
                if (isTop(c) && groupOf(c) == g) {
                    return c;
                }
            }
            return NONE;
        }

        int sumOf(int g) {
            int sum = 0;
            for (int c = 0; c < cords(); c++) {
                if (isPlainPendant(c) && groupOf(c) == g) {
                    int whole = wholeOf(c);
                    if (whole == NONE) {
                        return NONE;
                    }
                    sum += whole;
                }
            }
            return sum;
        }

        boolean canBeCompared(int g) {
            int top = topOf(g);
            return top != NONE && wholeOf(top) != NONE && sumOf(g) != NONE;
        }

        /** By how much the sum is more than the top; only for a group that can be compared. */
        int excessOf(int g) {
            return sumOf(g) - wholeOf(topOf(g));
        }

        // all of it

        int tops() {
            int many = 0;
            for (int c = 0; c < cords(); c++) {
                many += isTop(c) ? 1 : 0;
            }
            return many;
        }

        int wellKnotted() {
            int many = 0;
            for (int c = 0; c < cords(); c++) {
                many += valueOf(c) != NONE ? 1 : 0;
            }
            return many;
        }

        int allKnots() {
            int knots = 0;
            for (int c = 0; c < cords(); c++) {
                knots += knotsOf(c);
            }
            return knots;
        }

        // as a text tells it

        void addGroup() {
            put(row, GROUP_COUNT, groups() + 1);
        }

        /** A cord of the latest group, still without a cluster. */
        void addCord(int colour, int holder, int depth, boolean top) {
            int c = at(row, CORD_COUNT);
            put(row, COLOURS + c, colour);
            put(row, SIZES + c, 0);
            put(row, HOLDERS + c, holder);
            put(row, DEPTHS + c, depth);
            put(row, TOPS + c, top ? 1 : 0);
            put(row, IN_GROUPS + c, at(row, GROUP_COUNT) - 1);
            if (depth == 0 && !top) {
                put(row, LINE + at(row, LINE_COUNT), c);
                put(row, LINE_COUNT, at(row, LINE_COUNT) + 1);
            }
            put(row, CORD_COUNT, c + 1);
        }

        /** A cluster of the latest cord: it is the ones now, and all told ahead of it go up by a place. */
        void addCluster(int code) {
            int c = at(row, CORD_COUNT) - 1;
            int ones = CODES + MOST_CLUSTERS * c;
            int size = at(row, SIZES + c);
            for (int k = size; k > 0; k--) {
                put(row, ones + k, at(row, ones + k - 1));
            }
            put(row, ones, code);
            put(row, SIZES + c, size + 1);
        }
    }

    /** Reads a text letter by letter, and builds what it tells as a draft. */
    private static final class Reader {
        private static final int OUTSIDE = 0, COLOUR_DUE = 1, CLUSTER_DUE = 2, SINGLE_DUE = 3,
            LONG_DUE = 4, IN_CLUSTERS = 5, CORD_ENDED = 6;

        private final Bundle draft = new Bundle();
        /** The latest cord of each depth. */
        private final int[] latest = new int[DEEPEST + 1];
        private int state;
        private int depth;
        private boolean inTop;

        /** The place of the fault, or NONE. */
        int read(char[] text, int length) {
            draft.clear();
            state = OUTSIDE;
            depth = 0;
            inTop = false;
            for (int i = 0; i < length && i < text.length; i++) {
                if (!takes(text[i])) {
                    return i;
                }
            }
            return state == OUTSIDE ? NONE : length;
        }

        private boolean takes(char letter) {
            switch (state) {
                case OUTSIDE: return letter == '[' && opensGroup();
                case COLOUR_DUE: return opensCord(letter);
                case CLUSTER_DUE: return opensCluster(letter);
                case SINGLE_DUE: return endsCluster(SINGLE, letter - '0');
                case LONG_DUE: return endsCluster(LONG, letter - '0');
                case IN_CLUSTERS: return opensCluster(letter) || opensHanging(letter) || comesBehindCord(letter);
                default: return comesBehindCord(letter);
            }
        }

        private boolean opensGroup() {
            if (draft.groups() >= MOST_GROUPS) {
                return false;
            }
            draft.addGroup();
            inTop = false;
            state = COLOUR_DUE;
            return true;
        }

        private boolean opensCord(char letter) {
            int colour = letter - '0';
            if (!isColour(colour) || draft.cords() >= MOST_CORDS) {
                return false;
            }
            put(latest, depth, draft.cords());
            draft.addCord(colour, depth == 0 ? NONE : at(latest, depth - 1), depth, depth == 0 && inTop);
            state = CLUSTER_DUE;
            return true;
        }

        private boolean opensCluster(char letter) {
            if (draft.sizeOf(draft.cords() - 1) >= MOST_CLUSTERS) {
                return false;
            }
            switch (letter) {
                case '.': return endsCluster(GAP, 0);
                case 'e': return endsCluster(EIGHT, 1);
                case 's': state = SINGLE_DUE; return true;
                case 'l': state = LONG_DUE; return true;
                default: return false;
            }
        }

        private boolean endsCluster(int kind, int number) {
            if (!canCount(kind, number)) {
                return false;
            }
            draft.addCluster(10 * kind + number);
            state = IN_CLUSTERS;
            return true;
        }

        private boolean opensHanging(char letter) {
            if (letter != '(' || depth >= DEEPEST) {
                return false;
            }
            depth++;
            state = COLOUR_DUE;
            return true;
        }

        private boolean comesBehindCord(char letter) {
            boolean topEnded = depth == 0 && inTop;
            if (letter == ')' && depth > 0) {
                depth--;
                state = CORD_ENDED;
                return true;
            }
            if (letter == '^' && depth == 0 && !topEnded) {
                inTop = true;
                state = COLOUR_DUE;
                return true;
            }
            if (letter == ']' && depth == 0) {
                state = OUTSIDE;
                return true;
            }
            return !topEnded && opensCord(letter);
        }
    }

    /** Bundles laid aside, the latest to be taken back first; where it is full, the oldest goes. */
    private static final class Shelf {
        private final int places;
        private final int[] slots;
        private int used;

        Shelf(int places) {
            this.places = Math.max(places, 1);
            slots = new int[this.places * Bundle.LENGTH];
        }

        void clear() {
            used = 0;
        }

        void add(int[] row) {
            if (used >= places) {
                for (int i = 1; i < places; i++) {
                    copyRow(slots, i * Bundle.LENGTH, slots, (i - 1) * Bundle.LENGTH);
                }
                used = places - 1;
            }
            copyRow(row, 0, slots, used * Bundle.LENGTH);
            used++;
        }

        void takeInto(int[] row) {
            if (used > 0) {
                used--;
                copyRow(slots, used * Bundle.LENGTH, row, 0);
            }
        }
    }

    /**
     * Sets of up to sixteen cords, sought half by half: every set of the higher cords is tried, lowest
     * first, with the set of the lower ones that fits it best. So 256 trials do for 65536 sets.
     */
    private static final class Sets {
        private static final int HALF = 8;
        private static final int SETS = 1 << HALF;
        /** A key is a set of the lower half: its sum, how many are in it, and their bits. */
        private static final int COUNT_SHIFT = HALF, SUM_SHIFT = HALF + 4;

        private final int[] member = new int[MOST_CORDS];
        private final int[] value = new int[MOST_CORDS];
        private final int[] highSums = new int[SETS];
        private int[] keys = new int[SETS];
        private int[] spare = new int[SETS];
        private int members;
        private int keyCount;
        private int found;
        private int unlike;

        void clear() {
            members = 0;
        }

        /** Cords come by their numbers, the lowest first. */
        void add(int c, int v) {
            put(member, members, c);
            put(value, members, v);
            members++;
        }

        /** Finds the set whose sum and that of all others are least unlike, of several the lowest. */
        void findEvenest() {
            spreadLow(0);
            int high = spreadHigh();
            int all = 0;
            for (int i = 0; i < members; i++) {
                all += at(value, i);
            }
            int best = 0;
            unlike = all;
            for (int h = 0; h < high; h++) {
                int taken = at(highSums, h);
                int wanted = all - 2 * taken;
                int above = firstFrom((wanted + 1) / 2);
                int below = above > 0 ? firstFrom(sumAt(above - 1)) : above;
                best = better(below, above, h, wanted, best);
            }
            found = asCords(best);
        }

        /** The set found so far, or a better one: the keys next below and above half of what is wanted can be. */
        private int better(int below, int above, int h, int wanted, int best) {
            int belowUnlike = Math.abs(wanted - 2 * sumAt(below));
            int aboveUnlike = above < keyCount ? Math.abs(wanted - 2 * sumAt(above)) : belowUnlike + 1;
            boolean takesAbove = aboveUnlike < belowUnlike
                || (aboveUnlike == belowUnlike && bitsAt(above) < bitsAt(below));
            int least = takesAbove ? aboveUnlike : belowUnlike;
            if (least >= unlike) {
                return best;
            }
            unlike = least;
            return h << HALF | bitsAt(takesAbove ? above : below);
        }

        /** Finds the set of fewest whose sum it is, of several the lowest; NONE. */
        void findFewest(int sum) {
            spreadLow(1);
            int high = spreadHigh();
            int best = NONE;
            int fewest = MOST_CORDS + 1;
            for (int h = 0; h < high; h++) {
                int rest = sum - at(highSums, h);
                int i = rest < 0 ? keyCount : firstFrom(rest);
                if (i < keyCount && sumAt(i) == rest) {
                    int many = Integer.bitCount(h) + Integer.bitCount(bitsAt(i));
                    if (many < fewest) {
                        fewest = many;
                        best = h << HALF | bitsAt(i);
                    }
                }
            }
            found = best == NONE ? NONE : asCords(best);
        }

        /** All sets of the lower half as keys, the lowest key first; counted is 1 if fewer go ahead of more. */
        private void spreadLow(int counted) {
            put(keys, 0, 0);
            keyCount = 1;
            for (int i = 0; i < members && i < HALF; i++) {
                mergeWith(at(value, i) << SUM_SHIFT | counted << COUNT_SHIFT | 1 << i);
            }
        }

        /** Keys without a member and the same ones with it, both in order, become one row in order. */
        private void mergeWith(int added) {
            int without = 0;
            int with = 0;
            int all = 2 * keyCount;
            for (int i = 0; i < all; i++) {
                int plain = at(keys, without);
                int joined = at(keys, with) + added;
                boolean takesPlain = without < keyCount && (with >= keyCount || plain < joined);
                put(spare, i, takesPlain ? plain : joined);
                without += takesPlain ? 1 : 0;
                with += takesPlain ? 0 : 1;
            }
            int[] merged = spare;
            spare = keys;
            keys = merged;
            keyCount = all;
        }

        /** The sums of all sets of the higher half, by their bits: how many sets. */
        private int spreadHigh() {
            int sets = 1;
            put(highSums, 0, 0);
            for (int i = HALF; i < members && i < MOST_CORDS; i++) {
                for (int h = 0; h < sets; h++) {
                    put(highSums, sets + h, at(highSums, h) + at(value, i));
                }
                sets *= 2;
            }
            return sets;
        }

        /** The first key whose sum is this or above: of those with the same sum the one to be preferred. */
        private int firstFrom(int sum) {
            int below = 0;
            for (int step = SETS; step > 0; step /= 2) {
                int next = below + step;
                below = next <= keyCount && sumAt(next - 1) < sum ? next : below;
            }
            return below;
        }

        private int sumAt(int i) {
            return at(keys, i) >> SUM_SHIFT;
        }

        private int bitsAt(int i) {
            return at(keys, i) & (SETS - 1);
        }

        private int asCords(int set) {
            int cords = 0;
            for (int i = 0; i < members; i++) {
                cords |= (set >> i & 1) << at(member, i);
            }
            return cords;
        }
    }
}
