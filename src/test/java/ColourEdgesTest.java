/** Boundary cases of promises 24 to 30: colours, paths, cords that are the same, years, what is kept and counted. */
public final class ColourEdgesTest {
    private static final int BAD = Edges.BAD, NO = Edges.NO, FULL = Edges.FULL, NONE = Edges.NONE,
        LEAST = Edges.LEAST, MOST = Edges.MOST;
    private static final String LONGEST = "1s9s9s9l9";

    private ColourEdgesTest() {
    }

    public static void main(String[] args) throws IllegalAccessException {
        Edges.run(ColourEdgesTest.class, 24, 30);
    }

    /** Five CORDS of COLOURS 9, 2, 3, 5 and 6; busy. */
    private static void small(ToldInKnots x) {
        lay(x, "[1s2l3(2s4)3e^5l4][6s7]");
        x.keep();
        x.dye(0, 9);
        x.tie(2, 5);
        Texts.write(x, "[1e]");
    }

    private static void lay(ToldInKnots x, String text) {
        Texts.write(x, text);
        x.lay();
    }

    private static void refused(Edges is, Edges.Call call, int want) {
        is.refused(ColourEdgesTest::small, call, want);
    }

    // 24: colours

    private static void colours(Edges is, String text, int x, int together, int many) {
        is.due(text, knots -> knots.colours(x, 0), together);
        is.due(text, knots -> knots.colours(x, 1), many);
    }

    static void promise24_coloursAre0To9(Edges is) {
        for (int x = 0; x <= 9; x++) {
            colours(is, "[0e1e2e3e4e5e6e7e8e9e]", x, 1, 1);
        }
        for (int x : new int[] {-1, 10, '1', LEAST, MOST}) {
            refused(is, knots -> knots.colours(x, 0), BAD);
            refused(is, knots -> knots.colours(x, 1), BAD);
        }
    }

    static void promise24_whatIs0And1(Edges is) {
        for (int what : new int[] {-1, 2, LEAST, MOST}) {
            refused(is, knots -> knots.colours(5, what), BAD);
        }
    }

    static void promise24_noCordOfIt(Edges is) {
        colours(is, "[1e2e]", 0, 0, 0);
        colours(is, "[1e2e]", 9, 0, 0);
    }

    static void promise24_allCordsOfIt(Edges is) {
        colours(is, "[" + Texts.repeated(LONGEST, 16) + "]", 1, 16 * 9999, 16);
        colours(is, "[1e(1e(1e))^1e(1e)][1e]", 1, 6, 6);
    }

    static void promise24_thoseNotWellKnottedCountButTellNothing(Edges is) {
        colours(is, "[1s4]", 1, 0, 1);
        colours(is, "[1s41l31e.]", 1, 3, 3);
    }

    static void promise24_aValueIsOfTheCordAlone(Edges is) {
        colours(is, "[1e(2l5)]", 1, 1, 1);
        colours(is, "[1e(2s5)]", 1, 1, 1);
    }

    // 25: path

    private static void path(Edges is, String text, int x, int y, int want) {
        is.due(text, knots -> knots.path(x, y), want);
    }

    static void promise25_coloursAre0To9(Edges is) {
        path(is, "[0e(9l2)9e(0l3)]", 0, 9, 2);
        path(is, "[0e(9l2)9e(0l3)]", 9, 0, 3);
        for (int bad : new int[] {-1, 10, '1', LEAST, MOST}) {
            refused(is, knots -> knots.path(bad, 2), BAD);
            refused(is, knots -> knots.path(9, bad), BAD);
            refused(is, knots -> knots.path(bad, bad), BAD);
        }
    }

    static void promise25_noneThatHangsIs0(Edges is) {
        path(is, "[1l22l3]", 1, 2, 0);
        path(is, "[1l2(3l3)2l4]", 1, 2, 0);
        path(is, "[1l2(2s3)]", 1, 2, 0);
        path(is, "[1l2(2.)]", 1, 2, 0);
        path(is, "[1l2(2l3)]", 2, 1, 0);
        path(is, "[1l2(2l3)]", 0, 0, 0);
    }

    static void promise25_aPendantHangsFromNoCord(Edges is) {
        path(is, "[1l21l31l4^1l5]", 1, 1, 0);
        path(is, "[1l2(1l3)1l4]", 1, 1, 3);
    }

    static void promise25_fromOneDirectly(Edges is) {
        path(is, "[1l2(3l3(2l4))]", 1, 2, 0);
        path(is, "[1l2(3l3(2l4))]", 3, 2, 4);
        path(is, "[1l2(1l3(1l4))]", 1, 1, 7);
    }

    static void promise25_fromAnyThatIsOfIt(Edges is) {
        path(is, "[1l2(2l3)^1l2(2l4)][1l2(2l5)3e(1e(2l6))]", 1, 2, 3 + 4 + 5 + 6);
        path(is, "[1s2(2l3)]", 1, 2, 3);
        path(is, "[1.(" + Texts.repeated("2s9s9s9l9", 15) + ")]", 1, 2, 15 * 9999);
    }

    static void promise25_thoseNotWellKnottedTellNothing(Edges is) {
        path(is, "[1e(2s32l42e.)]", 1, 2, 4);
    }

    static void promise25_aValueIsOfTheCordAlone(Edges is) {
        path(is, "[1e(2l3(3l4))]", 1, 2, 3);
        path(is, "[1e(2l3(3s4))]", 1, 2, 3);
    }

    // 26: same

    private static void same(Edges is, String text, int a, int b, int want) {
        is.due(text, x -> x.same(a, b), want);
        is.due(text, x -> x.same(b, a), want);
    }

    static void promise26_aCordThatThereIsNotIsBad(Edges is) {
        for (int bad : new int[] {-1, 5, 16, LEAST, MOST}) {
            refused(is, x -> x.same(bad, 0), BAD);
            refused(is, x -> x.same(0, bad), BAD);
            refused(is, x -> x.same(bad, bad), BAD);
        }
        same(is, "[" + Texts.repeated("1e", 16) + "]", 0, 15, 1);
        same(is, "[" + Texts.repeated("1e", 16) + "]", 0, 16, BAD);
    }

    static void promise26_alikeIsBad(Edges is) {
        for (int c = 0; c < 5; c++) {
            int alike = c;
            refused(is, x -> x.same(alike, alike), BAD);
        }
        is.due("[1e]", x -> x.same(0, 0), BAD);
    }

    static void promise26_colour(Edges is) {
        same(is, "[1e1e]", 0, 1, 1);
        same(is, "[1e2e]", 0, 1, 0);
        same(is, "[0e9e]", 0, 1, 0);
    }

    static void promise26_clusters(Edges is) {
        same(is, "[1s1s2s3l41s1s2s3l4]", 0, 1, 1);
        same(is, "[1s1s2s3l41s1s2s3l5]", 0, 1, 0);
        same(is, "[1s1s2s3l41s9s2s3l4]", 0, 1, 0);
        same(is, "[1s1s2s3l41s1s2s3s4]", 0, 1, 0);
        same(is, "[1s11e]", 0, 1, 0);
        same(is, "[1e1.]", 0, 1, 0);
        same(is, "[1.s1.1s1.]", 0, 1, 0);
        same(is, "[1....1...]", 0, 1, 0);
        same(is, "[1.1..]", 0, 1, 0);
    }

    static void promise26_aFullCordEndsAheadOfTheNext(Edges is) {
        same(is, "[1s1s2s3l42e1s1s2s3l43.]", 0, 2, 1);
        same(is, "[1....1....2e]", 0, 1, 1);
        same(is, "[" + Texts.repeated("1s9s9s9l9", 16) + "]", 0, 15, 1);
    }

    static void promise26_asManyHang(Edges is) {
        same(is, "[1e(2e)1e]", 0, 2, 0);
        same(is, "[1e(2e)1e(2e2e)]", 0, 2, 0);
        same(is, "[1e(2e2e)1e(2e2e)]", 0, 3, 1);
        same(is, "[1e(2e(3e))1e(2e)]", 0, 3, 0);
        same(is, "[1e(2e(3e))1e(2e3e)]", 0, 3, 0);
        same(is, "[1e(2e(3e)4e)1e(2e4e(3e))]", 0, 4, 0);
    }

    static void promise26_whatHangsIsTheSameInOrder(Edges is) {
        same(is, "[1e(2e3e)1e(3e2e)]", 0, 3, 0);
        same(is, "[1e(2e(3e)2e)1e(2e(3e)2e)]", 0, 4, 1);
        same(is, "[1e(2e(3e)2e)1e(2e2e(3e))]", 0, 4, 0);
        same(is, "[1e(2e(3e))1e(2e(4e))]", 0, 3, 0);
        same(is, "[1e(2e(3l2))1e(2e(3l3))]", 0, 3, 0);
    }

    static void promise26_whereverTheyHang(Edges is) {
        same(is, "[1e(1e)^1e]", 1, 2, 1);
        same(is, "[1e(2e(1e))1e]", 2, 3, 1);
        same(is, "[1e(2e)][3e^1e(2e)]", 0, 3, 1);
        same(is, "[1e(1e(1e))]", 0, 1, 0);
        same(is, "[1e(1e(1e))]", 1, 2, 0);
        same(is, "[1e(1e1e)]", 1, 2, 1);
        same(is, "[1e(2e)3e(1e(2e))]", 0, 3, 1);
    }

    static void promise26_alsoIfOneWasHung(Edges is) {
        ToldInKnots x = Texts.laid("[1e(2e)3e][1e(2e)]");
        x.hang(0, 1);
        is.due("same", x.same(0, 3), 1);
        is.due("what hangs from them", x.same(1, 4), 1);
        x.knot(1, 0, 0, 0);
        is.due("then not", x.same(0, 3), 0);
    }

    static void promise26_notWellKnottedOnesToo(Edges is) {
        same(is, "[1s11s1]", 0, 1, 1);
        same(is, "[1s11s2]", 0, 1, 0);
    }

    // 27: year. Draws, less 10: CORD 0 by z = 0: -10, by 21: 10, by 34: 0, by 9999: -3; by z = 0 CORD 1: 9, 2: -4, 15: 0

    private static void year(Edges is, String text, int z, int work, int values) {
        is.due(text, x -> x.year(z, 0), work);
        is.due(text, x -> x.year(z, 1), values);
    }

    static void promise27_from0To9999(Edges is) {
        year(is, "[1s5.]", 0, 5 + 4, 40);
        year(is, "[1s5.]", 9999, 5 + 4 + 7, 47);
        for (int z : new int[] {-1, 10000, LEAST, MOST}) {
            refused(is, x -> x.year(z, 0), BAD);
            refused(is, x -> x.year(z, 1), BAD);
        }
    }

    static void promise27_whatIs0And1(Edges is) {
        for (int what : new int[] {-1, 2, LEAST, MOST}) {
            refused(is, x -> x.year(5, what), BAD);
        }
    }

    static void promise27_0AtLeast(Edges is) {
        year(is, "[1l9]", 0, 9, 0);
        year(is, "[1s1.]", 0, 1, 0);
        year(is, "[1s1e]", 0, 1, 1);
        year(is, "[1.]", 0, 0, 0);
        year(is, "[1...l4]", 0, 4, 0);
    }

    static void promise27_atMostWhatItCanTell(Edges is) {
        year(is, "[1.]", 21, 9, 9);
        year(is, "[1e]", 21, 2 + 9, 9);
        year(is, "[1s8l9]", 21, 8 + 9, 99);
        year(is, "[1s9.]", 21, 9, 99);
        year(is, "[1s9s9.]", 21, 9, 999);
        year(is, "[1s9s9s9.]", 21, 9, 9999);
        year(is, "[1s9s9s9l9]", 21, 0, 9999);
        year(is, "[1.s9s9.]", 21, 1 + 9 + 9, 1000);
        year(is, "[1s9s8l9]", 21, 8 + 9, 999);
    }

    static void promise27_aFullCordEndsAheadOfTheNext(Edges is) {
        year(is, "[1s9s9s9l9(2l5)3s1]", 0, 18 - 1, 9989);
        year(is, "[1s9s9s9l93s1]", 21, 0, 9999);
    }

    static void promise27_aDrawOf10LeavesIt(Edges is) {
        year(is, "[1s2.l3]", 34, 0, 203);
    }

    static void promise27_byTheNumberOfTheCord(Edges is) {
        year(is, "[1s12l9]", 0, 0, 9);
        year(is, "[1s12.]", 0, 9, 9);
        year(is, "[1.(2.)3s5.]", 0, 5 + 4 + 6, 46);
        year(is, "[" + Texts.repeated("1s1", 15) + "1s5l5]", 0, 0, 55);
    }

    static void promise27_thoseNotWellKnottedAreNotTied(Edges is) {
        year(is, "[1s5]", 0, 0, 0);
        year(is, "[1e.]", 21, 0, 0);
    }

    static void promise27_neitherTopNorWhatHangsIsTied(Edges is) {
        year(is, "[1s5.(2l5)^3l5]", 0, 5 + 4, 40);
        year(is, "[1s5.(2s5)^3s5]", 0, 5 + 4, 40);
    }

    static void promise27_itIsAskedNotDone(Edges is) {
        is.unchanged(ColourEdgesTest::small, x -> x.year(21, 0) + x.year(21, 1));
    }

    // 28: keep

    static void promise28_twoAtMost(Edges is) {
        ToldInKnots x = new ToldInKnots();
        is.due("one", x.keep(), 1);
        is.due("two", x.keep(), 2);
        is.due("three", x.keep(), FULL);
        is.due("count(6)", x.count(6), 2);
    }

    static void promise28_aThirdChangesNothing(Edges is) {
        is.refused(x -> { small(x); x.keep(); x.dye(1, 1); }, ToldInKnots::keep, FULL);
    }

    static void promise28_whatIsKeptStaysAsItWas(Edges is) {
        ToldInKnots x = Texts.laid("[1e2e][3e]");
        x.keep();
        x.tie(0, 5);
        x.dye(1, 9);
        x.hang(1, 1);
        x.undo();
        x.undo();
        x.back();
        is.due("VALUE", x.cord(0, 7), 1);
        is.due("COLOUR", x.cord(1, 0), 2);
        is.due("PENDANT", x.pendant(0, 1), 1);
    }

    static void promise28_itCanBeUndoneBehindIt(Edges is) {
        ToldInKnots x = Texts.laid("[1e]");
        x.tie(0, 5);
        x.keep();
        is.due("count(5)", x.count(5), 1);
        is.due("undo", x.undo(), 0);
        is.due("VALUE", x.cord(0, 7), 1);
        is.due("back", x.back(), 0);
        is.due("VALUE as KEPT", x.cord(0, 7), 5);
    }

    static void promise28_onceMoreBehindABack(Edges is) {
        ToldInKnots x = new ToldInKnots();
        x.keep();
        x.keep();
        x.back();
        is.due("two", x.keep(), 2);
        is.due("three", x.keep(), FULL);
        x.back();
        x.back();
        is.due("one", x.keep(), 1);
    }

    // 29: back

    static void promise29_nothingIsNo(Edges is) {
        is.refused(x -> { x.dye(0, 9); x.write('['); }, ToldInKnots::back, NO);
        is.refused(x -> { x.keep(); x.back(); x.dye(0, 9); }, ToldInKnots::back, NO);
        is.refused(x -> { x.keep(); lay(x, "[1e]"); x.dye(0, 9); }, ToldInKnots::back, NO);
    }

    static void promise29_asKeptLast(Edges is) {
        ToldInKnots x = Texts.laid("[1.]");
        x.tie(0, 3);
        x.keep();
        x.tie(0, 4);
        x.keep();
        x.tie(0, 5);
        is.due("one is left", x.back(), 1);
        is.due("VALUE", x.cord(0, 7), 4);
        is.due("none is left", x.back(), 0);
        is.due("VALUE as KEPT first", x.cord(0, 7), 3);
        is.due("no more", x.back(), NO);
    }

    static void promise29_nothingIsUndoneThen(Edges is) {
        ToldInKnots x = Texts.laid("[1.]");
        x.tie(0, 3);
        x.keep();
        x.tie(0, 4);
        x.back();
        is.due("count(5)", x.count(5), 0);
        is.due("undo", x.undo(), NO);
        is.due("VALUE", x.cord(0, 7), 3);
        x.tie(0, 8);
        is.due("one change", x.count(5), 1);
        is.due("UNDONE", x.undo(), 0);
        is.due("VALUE", x.cord(0, 7), 3);
    }

    static void promise29_clustersColoursAndWhoHangsWhere(Edges is) {
        ToldInKnots x = Texts.laid("[1e(2e(3e))4e5e^6e][7e]");
        x.hang(3, 1);
        x.keep();
        x.hang(0, 1);
        x.knot(5, 0, 1, 9);
        x.dye(2, 0);
        is.due("back", x.back(), 0);
        int[] groups = {0, 0, 0, 1, 0, 0, 1};
        int[] colours = {1, 2, 3, 4, 5, 6, 7};
        for (int c = 0; c < 7; c++) {
            is.due("GROUP of " + c, x.cord(c, 3), groups[c]);
            is.due("COLOUR of " + c, x.cord(c, 0), colours[c]);
            is.due("CLUSTER of " + c, x.cluster(c, 0), 31);
        }
        is.due("PENDANT 0 of 0", x.pendant(0, 0), 0);
        is.due("PENDANT 1 of 0", x.pendant(0, 1), 4);
        is.due("PENDANT 1 of 1", x.pendant(1, 1), 3);
        is.due("PENDANT 2 of 1", x.pendant(1, 2), NONE);
    }

    static void promise29_theTextStays(Edges is) {
        ToldInKnots x = new ToldInKnots();
        Texts.write(x, "[1e");
        x.keep();
        x.write(']');
        x.back();
        is.due("letters", x.count(7), 4);
        is.due("lay", x.lay(), 1);
    }

    // 30: count

    private static void count(Edges is, String text, int what, int want) {
        is.due(text, x -> x.count(what), want);
    }

    static void promise30_whatIs0To7(Edges is) {
        int[] want = {7, 2, 1, 7, 24, 0, 0, 0};
        for (int what = 0; what <= 7; what++) {
            is.due("count(" + what + ")", new ToldInKnots().count(what), want[what]);
        }
        for (int what : new int[] {-1, 8, LEAST, MOST}) {
            refused(is, x -> x.count(what), BAD);
        }
    }

    static void promise30_cordsFrom1To16(Edges is) {
        count(is, "[1e]", 0, 1);
        count(is, "[" + Texts.repeated("1e", 16) + "]", 0, 16);
        count(is, "[1e(2e(3e))^4e]", 0, 4);
    }

    static void promise30_groupsFrom1To5(Edges is) {
        count(is, "[1e]", 1, 1);
        count(is, Texts.repeated("[1e]", 5), 1, 5);
    }

    static void promise30_topsFrom0To5(Edges is) {
        count(is, Texts.repeated("[1e]", 5), 2, 0);
        count(is, Texts.repeated("[1e^2e]", 5), 2, 5);
        count(is, "[1e^2e(3e)][1e]", 2, 1);
    }

    static void promise30_aFullBundleOfWhichSomeWereHung(Edges is) {
        ToldInKnots x = Texts.laid("[1e(2e)3e^4e][" + Texts.repeated("5e", 11) + "^6e]");
        x.hang(0, 1);
        x.hang(14, 0);
        int[] want = {16, 2, 2, 16, 32, 2, 0};
        for (int what = 0; what < want.length; what++) {
            is.due("count(" + what + ")", x.count(what), want[what]);
        }
    }

    static void promise30_wellKnottedFrom0To16(Edges is) {
        count(is, "[1s1(2s1)^3s1]", 3, 0);
        count(is, "[1e(2e)^3e]", 3, 3);
        count(is, "[1e(2s1)^3e]", 3, 2);
        count(is, "[" + Texts.repeated("1.", 16) + "]", 3, 16);
    }

    static void promise30_knotsFrom0To576(Edges is) {
        count(is, "[1.(2.)^3.]", 4, 0);
        count(is, "[" + Texts.repeated(LONGEST, 16) + "]", 4, 576);
        count(is, "[1e(2s1)^3l4]", 4, 7);
    }

    static void promise30_undoneFrom0To8(Edges is) {
        ToldInKnots x = new ToldInKnots();
        is.due("none", x.count(5), 0);
        for (int i = 1; i <= 10; i++) {
            x.dye(0, 1);
            is.due("behind " + i, x.count(5), Math.min(i, 8));
        }
        x.undo();
        is.due("one is UNDONE", x.count(5), 7);
    }

    static void promise30_keptFrom0To2(Edges is) {
        ToldInKnots x = new ToldInKnots();
        int[] want = {1, 2, 2};
        is.due("none", x.count(6), 0);
        for (int kept : want) {
            x.keep();
            is.due("behind a keep", x.count(6), kept);
        }
        x.back();
        is.due("behind a back", x.count(6), 1);
    }

    static void promise30_lettersFrom0To200(Edges is) {
        ToldInKnots x = new ToldInKnots();
        is.due("none", x.count(7), 0);
        for (int i = 1; i <= 201; i++) {
            x.write('x');
            is.due("behind " + i, x.count(7), Math.min(i, 200));
        }
        x.wipe();
        is.due("wiped", x.count(7), 0);
    }
}
