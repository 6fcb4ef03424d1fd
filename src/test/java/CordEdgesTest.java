/** Boundary cases of promises 6 to 9: what is told of cords, clusters, groups and pendants. */
public final class CordEdgesTest {
    private static final int BAD = Edges.BAD, NONE = Edges.NONE, LEAST = Edges.LEAST, MOST = Edges.MOST;
    private static final int COLOUR = 0, CLUSTERS = 1, HOLDER = 2, GROUP = 3, DEPTH = 4, HANGING = 5, TOP = 6,
        VALUE = 7, WHOLE = 8, OTHER_END = 9, KNOTS = 10;
    private static final String LONGEST = "1s9s9s9l9";

    private CordEdgesTest() {
    }

    public static void main(String[] args) throws IllegalAccessException {
        Edges.run(CordEdgesTest.class, 6, 9);
    }

    /** What is told of the only cord of a text. */
    private static void only(Edges is, String clusters, int what, int want) {
        is.due("[1" + clusters + "]", x -> x.cord(0, what), want);
    }

    // 6: cord

    static void promise06_whatIs0To10(Edges is) {
        int[] want = {1, 3, NONE, 0, 0, 1, 0, 203, 204, NONE, 5};
        for (int what = 0; what <= 10; what++) {
            is.due("cord(0, " + what + ")", new ToldInKnots().cord(0, what), want[what]);
        }
    }

    static void promise06_whatBelow0IsBad(Edges is) {
        for (int what : new int[] {-1, -2, LEAST}) {
            is.refused(x -> x.dye(0, 2), x -> x.cord(0, what), BAD);
        }
    }

    static void promise06_whatAbove10IsBad(Edges is) {
        for (int what : new int[] {11, 12, 256, MOST}) {
            is.refused(x -> x.dye(0, 2), x -> x.cord(0, what), BAD);
        }
    }

    static void promise06_aCordBelow0IsBad(Edges is) {
        for (int what = 0; what <= 10; what++) {
            is.due("cord(-1, " + what + ")", new ToldInKnots().cord(-1, what), BAD);
            is.due("cord(least, " + what + ")", new ToldInKnots().cord(LEAST, what), BAD);
        }
    }

    static void promise06_aCordThatThereIsNotIsBad(Edges is) {
        for (int what = 0; what <= 10; what++) {
            is.due("cord(7, " + what + ")", new ToldInKnots().cord(7, what), BAD);
            is.due("cord(16, " + what + ")", new ToldInKnots().cord(16, what), BAD);
            is.due("cord(most, " + what + ")", new ToldInKnots().cord(MOST, what), BAD);
        }
        is.due("the last there is", new ToldInKnots().cord(6, COLOUR), 7);
    }

    static void promise06_ofOneAndOfSixteenCords(Edges is) {
        is.due("[1e]", x -> x.cord(0, VALUE), 1);
        is.due("[1e]", x -> x.cord(1, VALUE), BAD);
        String full = "[" + Texts.repeated("1e", 15) + "9l9]";
        is.due(full, x -> x.cord(15, COLOUR), 9);
        is.due(full, x -> x.cord(15, VALUE), 9);
        is.due(full, x -> x.cord(16, VALUE), BAD);
    }

    static void promise06_coloursAre0To9(Edges is) {
        for (int colour = 0; colour <= 9; colour++) {
            is.due("[" + colour + "e]", x -> x.cord(0, COLOUR), colour);
        }
    }

    static void promise06_clustersAre1To4(Edges is) {
        only(is, ".", CLUSTERS, 1);
        only(is, "..", CLUSTERS, 2);
        only(is, "...", CLUSTERS, 3);
        only(is, "....", CLUSTERS, 4);
        only(is, "s1s2s3l4", CLUSTERS, 4);
    }

    static void promise06_atDepth0ItHangsFromNone(Edges is) {
        ToldInKnots x = Texts.laid("[1e(2e(3e)4e)5e^6e(7e(8e))][9e]");
        int[] holders = {NONE, 0, 1, 0, NONE, NONE, 5, 6, NONE};
        for (int c = 0; c < holders.length; c++) {
            is.due("from which " + c + " hangs", x.cord(c, HOLDER), holders[c]);
        }
    }

    static void promise06_depthsAre0To2(Edges is) {
        ToldInKnots x = Texts.laid("[1e(2e(3e)4e)5e^6e(7e(8e))][9e]");
        int[] depths = {0, 1, 2, 1, 0, 0, 1, 2, 0};
        for (int c = 0; c < depths.length; c++) {
            is.due("depth of " + c, x.cord(c, DEPTH), depths[c]);
        }
    }

    static void promise06_groupsAre0To4(Edges is) {
        ToldInKnots x = Texts.laid("[1e][1e^2e][1e(2e(3e))][1e^2e(3e(4e))][1e]");
        int[] groups = {0, 1, 1, 2, 2, 2, 3, 3, 3, 3, 4};
        for (int c = 0; c < groups.length; c++) {
            is.due("GROUP of " + c, x.cord(c, GROUP), groups[c]);
        }
    }

    static void promise06_from0To15HangFromACord(Edges is) {
        ToldInKnots x = Texts.laid("[1e(" + Texts.repeated("2e", 15) + ")]");
        is.due("fifteen", x.cord(0, HANGING), 15);
        for (int c = 1; c <= 15; c++) {
            is.due("none from " + c, x.cord(c, HANGING), 0);
        }
    }

    static void promise06_whatHangsDeeperHangsNotFromIt(Edges is) {
        ToldInKnots x = Texts.laid("[1e(2e(3e4e5e))6e]");
        is.due("from 0", x.cord(0, HANGING), 1);
        is.due("from 1", x.cord(1, HANGING), 3);
        is.due("from 2", x.cord(2, HANGING), 0);
        is.due("from 5", x.cord(5, HANGING), 0);
    }

    static void promise06_aTopIsOneAloneOfItsGroup(Edges is) {
        ToldInKnots x = Texts.laid("[1e2e^3e(4e(5e))][6e][7e^8e]");
        int[] tops = {0, 0, 1, 0, 0, 0, 0, 1};
        for (int c = 0; c < tops.length; c++) {
            is.due("TOP " + c, x.cord(c, TOP), tops[c]);
        }
    }

    static void promise06_theLeastAndTheMostValue(Edges is) {
        only(is, ".", VALUE, 0);
        only(is, "....", VALUE, 0);
        only(is, "e", VALUE, 1);
        only(is, "...e", VALUE, 1);
        only(is, "l9", VALUE, 9);
        only(is, "s9l9", VALUE, 99);
        only(is, "s9s9l9", VALUE, 999);
        only(is, "s9s9s9l9", VALUE, 9999);
        only(is, "s1...", VALUE, 1000);
    }

    static void promise06_onesAreWellKnottedButSingle(Edges is) {
        only(is, ".", VALUE, 0);
        only(is, "e", VALUE, 1);
        for (int n = 1; n <= 9; n++) {
            only(is, "s" + n, VALUE, NONE);
            only(is, "...s" + n, VALUE, NONE);
        }
        for (int n = 2; n <= 9; n++) {
            only(is, "l" + n, VALUE, n);
        }
    }

    static void promise06_othersAreWellKnottedAsGapsOrSingle(Edges is) {
        String[] behind = {".", "..", "..."};
        int unit = 1;
        for (String gaps : behind) {
            unit *= 10;
            only(is, "." + gaps, VALUE, 0);
            only(is, "e" + gaps, VALUE, NONE);
            only(is, "s1" + gaps, VALUE, unit);
            only(is, "s9" + gaps, VALUE, 9 * unit);
            only(is, "l2" + gaps, VALUE, NONE);
            only(is, "l9" + gaps, VALUE, NONE);
        }
    }

    static void promise06_aWholeOfItAlone(Edges is) {
        only(is, "s1.", WHOLE, 10);
        only(is, ".", WHOLE, 0);
        only(is, "s1", WHOLE, NONE);
    }

    static void promise06_theMostWhole(Edges is) {
        String text = "[" + LONGEST + "(" + LONGEST + "(" + Texts.repeated(LONGEST, 14) + "))]";
        is.due(text, x -> x.cord(0, WHOLE), 16 * 9999);
        is.due(text, x -> x.cord(1, WHOLE), 15 * 9999);
        is.due(text, x -> x.cord(2, WHOLE), 9999);
    }

    static void promise06_noWholeForOneAtAnyDepth(Edges is) {
        ToldInKnots x = Texts.laid("[1l2(2l3(3s4)4l5)5l6(6l7(7l8))]");
        int[] wholes = {NONE, NONE, NONE, 5, 21, 15, 8};
        for (int c = 0; c < wholes.length; c++) {
            is.due("WHOLE of " + c, x.cord(c, WHOLE), wholes[c]);
        }
        is.due("its VALUE all the same", x.cord(0, VALUE), 2);
        is.due("[1s2(2l3)]", y -> y.cord(0, WHOLE), NONE);
        is.due("[1s2(2l3)]", y -> y.cord(1, WHOLE), 3);
        is.due("[1e(2e2e2s2)3e]", y -> y.cord(0, WHOLE), NONE);
    }

    static void promise06_oneClusterIsTheSameFromTheOtherEnd(Edges is) {
        only(is, ".", OTHER_END, 0);
        only(is, "e", OTHER_END, 1);
        only(is, "l9", OTHER_END, 9);
        only(is, "s1", OTHER_END, NONE);
    }

    static void promise06_fromTheOtherEndTheFirstAreOnes(Edges is) {
        only(is, "l9s8", OTHER_END, 89);
        only(is, "es8", OTHER_END, 81);
        only(is, ".s8", OTHER_END, 80);
        only(is, "s8.", OTHER_END, NONE);
        only(is, "l9s9s9s9", OTHER_END, 9999);
        only(is, "l4s3.s1", OTHER_END, 1034);
        only(is, "...s1", OTHER_END, 1000);
        only(is, "l4s3.", OTHER_END, 34);
        only(is, "....", OTHER_END, 0);
    }

    static void promise06_fromTheOtherEndTheLastAreNoOnes(Edges is) {
        only(is, ".e", OTHER_END, NONE);
        only(is, ".l2", OTHER_END, NONE);
        only(is, "..l2", OTHER_END, NONE);
        only(is, "...l2", OTHER_END, NONE);
        only(is, "...e", OTHER_END, NONE);
        only(is, ".e..", OTHER_END, NONE);
        only(is, ".l9..", OTHER_END, NONE);
    }

    static void promise06_theLeastAndTheMostKnots(Edges is) {
        only(is, ".", KNOTS, 0);
        only(is, "....", KNOTS, 0);
        only(is, "s1", KNOTS, 1);
        only(is, "e", KNOTS, 2);
        only(is, "l2", KNOTS, 2);
        only(is, "eeee", KNOTS, 8);
        only(is, "s9s9s9l9", KNOTS, 36);
        only(is, "l9l9l9s9", KNOTS, 36);
    }

    static void promise06_aFullCordEndsAheadOfTheNext(Edges is) {
        ToldInKnots x = Texts.laid("[1s1s2s3l42s9s9s9s93l4s3s2s14s1]");
        int[][] want = {{1234, 1234, NONE, 10}, {NONE, NONE, NONE, 36}, {NONE, NONE, 1234, 10}, {NONE, NONE, NONE, 1}};
        for (int c = 0; c < want.length; c++) {
            is.due("CLUSTERS of " + c, x.cord(c, CLUSTERS), c < 3 ? 4 : 1);
            for (int what = VALUE; what <= KNOTS; what++) {
                is.due("cord(" + c + ", " + what + ")", x.cord(c, what), want[c][what - VALUE]);
            }
        }
    }

    static void promise06_aFullBundleOfWhichSomeWereHung(Edges is) {
        ToldInKnots x = Texts.laid("[1e(2e)3e^4e][" + Texts.repeated("5e", 11) + "^6e]");
        x.hang(0, 1);
        x.hang(14, 0);
        for (int c = 0; c < 16; c++) {
            is.due("TOP " + c, x.cord(c, TOP), c == 3 || c == 15 ? 1 : 0);
            is.due("GROUP of " + c, x.cord(c, GROUP), c == 2 || c == 3 || c == 14 ? 0 : 1);
            is.due("from which " + c + " hangs", x.cord(c, HOLDER), c == 1 ? 0 : NONE);
            is.due("WHOLE of " + c, x.cord(c, WHOLE), c == 0 ? 2 : 1);
        }
        is.due("no further", x.cord(16, TOP), BAD);
    }

    static void promise06_knotsOfWhatHangsCountNot(Edges is) {
        is.due("[1e(2l9)]", x -> x.cord(0, KNOTS), 2);
    }

    // 7: cluster

    static void promise07_gapSingleLongEight(Edges is) {
        is.due("[1.]", x -> x.cluster(0, 0), 0);
        is.due("[1e]", x -> x.cluster(0, 0), 31);
        for (int n = 1; n <= 9; n++) {
            int counted = n;
            is.due("[1s" + n + "]", x -> x.cluster(0, 0), 10 + counted);
        }
        for (int n = 2; n <= 9; n++) {
            int counted = n;
            is.due("[1l" + n + "]", x -> x.cluster(0, 0), 20 + counted);
        }
    }

    static void promise07_theLastToldIs0(Edges is) {
        ToldInKnots x = Texts.laid("[1s9.el2(2s3l4)]");
        int[] codes = {22, 31, 0, 19};
        for (int k = 0; k < 4; k++) {
            is.due("cluster(0, " + k + ")", x.cluster(0, k), codes[k]);
        }
        is.due("cluster(1, 0)", x.cluster(1, 0), 24);
        is.due("cluster(1, 1)", x.cluster(1, 1), 13);
    }

    static void promise07_oneThatTheCordHasNotIsBad(Edges is) {
        String[] cords = {".", "..", "...", "...."};
        for (int has = 1; has <= 4; has++) {
            int size = has;
            is.due("[1" + cords[has - 1] + "2....]", x -> x.cluster(0, size - 1), 0);
            for (int k = has; k <= 5; k++) {
                int beyond = k;
                is.due("[1" + cords[has - 1] + "2....]", x -> x.cluster(0, beyond), BAD);
            }
        }
        is.due("most", new ToldInKnots().cluster(0, MOST), BAD);
    }

    static void promise07_oneBelow0IsBad(Edges is) {
        for (int c = 0; c < 7; c++) {
            is.due("cluster(" + c + ", -1)", new ToldInKnots().cluster(c, -1), BAD);
            is.due("cluster(" + c + ", least)", new ToldInKnots().cluster(c, LEAST), BAD);
        }
    }

    static void promise07_aCordThatThereIsNotIsBad(Edges is) {
        for (int k = 0; k <= 3; k++) {
            is.due("cluster(-1, " + k + ")", new ToldInKnots().cluster(-1, k), BAD);
            is.due("cluster(7, " + k + ")", new ToldInKnots().cluster(7, k), BAD);
            is.due("cluster(least, " + k + ")", new ToldInKnots().cluster(LEAST, k), BAD);
            is.due("cluster(most, " + k + ")", new ToldInKnots().cluster(MOST, k), BAD);
        }
        is.due("the last there is", new ToldInKnots().cluster(6, 0), 0);
        is.refused(x -> x.dye(0, 2), x -> x.cluster(7, 0), BAD);
    }

    // 8: group

    static void promise08_whatIs0To3(Edges is) {
        int[] want = {2, 3, 215, 0};
        for (int what = 0; what <= 3; what++) {
            is.due("group(0, " + what + ")", new ToldInKnots().group(0, what), want[what]);
        }
        is.refused(x -> x.dye(0, 2), x -> x.group(0, -1), BAD);
        is.refused(x -> x.dye(0, 2), x -> x.group(0, 4), BAD);
        is.due("least", new ToldInKnots().group(0, LEAST), BAD);
        is.due("most", new ToldInKnots().group(0, MOST), BAD);
    }

    static void promise08_aGroupThatThereIsNotIsBad(Edges is) {
        String five = Texts.repeated("[1e]", 4) + "[1l5]";
        for (int what = 0; what <= 3; what++) {
            int asked = what;
            is.due("group(-1, " + what + ")", new ToldInKnots().group(-1, what), BAD);
            is.due("group(2, " + what + ")", new ToldInKnots().group(2, what), BAD);
            is.due("group(least, " + what + ")", new ToldInKnots().group(LEAST, what), BAD);
            is.due("group(most, " + what + ")", new ToldInKnots().group(MOST, what), BAD);
            is.due(five, x -> x.group(5, asked), BAD);
            is.due("[1e]", x -> x.group(1, asked), BAD);
        }
        is.due(five, x -> x.group(4, 2), 5);
    }

    static void promise08_from1To16Pendants(Edges is) {
        is.due("[1e]", x -> x.group(0, 0), 1);
        is.due("[1e^2e]", x -> x.group(0, 0), 1);
        is.due("[1e(2e3e)]", x -> x.group(0, 0), 1);
        is.due("[" + Texts.repeated("1e", 16) + "]", x -> x.group(0, 0), 16);
        is.due("[" + Texts.repeated("1e", 15) + "^1e]", x -> x.group(0, 0), 15);
    }

    static void promise08_withoutTopNone(Edges is) {
        is.due("[1e]", x -> x.group(0, 1), NONE);
        is.due("[1e^2e]", x -> x.group(0, 1), 1);
        is.due("[1e][1e^2e]", x -> x.group(0, 1), NONE);
        is.due("[1e][1e^2e]", x -> x.group(1, 1), 2);
        is.due("[" + Texts.repeated("1e", 15) + "^1e]", x -> x.group(0, 1), 15);
    }

    static void promise08_theLeastAndTheMostSum(Edges is) {
        is.due("[1.]", x -> x.group(0, 2), 0);
        is.due("[1..2.^3l9]", x -> x.group(0, 2), 0);
        is.due("[" + Texts.repeated(LONGEST, 16) + "]", x -> x.group(0, 2), 16 * 9999);
    }

    static void promise08_noSumForOneAtAnyDepth(Edges is) {
        is.due("[1e2s1]", x -> x.group(0, 2), NONE);
        is.due("[1e(2s1)3e]", x -> x.group(0, 2), NONE);
        is.due("[1e(2e(3s1))4e]", x -> x.group(0, 2), NONE);
        is.due("[1e2e][3s1]", x -> x.group(0, 2), 2);
        is.due("[1e2e][3s1]", x -> x.group(1, 2), NONE);
    }

    static void promise08_aSumAsksNotForTheTop(Edges is) {
        is.due("[1e2l3^4s1]", x -> x.group(0, 2), 4);
        is.due("[1e2l3^4l9(5s1)]", x -> x.group(0, 2), 4);
        is.due("[1e2l3]", x -> x.group(0, 2), 4);
    }

    static void promise08_rightIsNeitherMoreNorLess(Edges is) {
        is.due("[1l3(2e)^4l4]", x -> x.group(0, 3), 1);
        is.due("[1l3(2e)^4l5]", x -> x.group(0, 3), 0);
        is.due("[1l3(2e)^4l3]", x -> x.group(0, 3), 0);
        is.due("[1l3^4l2(5e)]", x -> x.group(0, 3), 1);
        is.due("[1.^2.]", x -> x.group(0, 3), 1);
        is.due("[1.^2e]", x -> x.group(0, 3), 0);
    }

    static void promise08_withoutOneOfBothItIsNotRight(Edges is) {
        is.due("[1.]", x -> x.group(0, 3), 0);
        is.due("[1s1^2s1]", x -> x.group(0, 3), 0);
        is.due("[1s1^2.]", x -> x.group(0, 3), 0);
        is.due("[1.^2s1]", x -> x.group(0, 3), 0);
        is.due("[1e(2s1)^3e(4s1)]", x -> x.group(0, 3), 0);
    }

    // 9: pendant

    static void promise09_number0IsTheFirst(Edges is) {
        is.due("[1e]", x -> x.pendant(0, 0), 0);
        is.due("[1e][1e]", x -> x.pendant(1, 0), 1);
        is.due("[1e(2e(3e))4e^5e][6e]", x -> x.pendant(0, 1), 3);
        is.due("[1e(2e(3e))4e^5e][6e]", x -> x.pendant(1, 0), 5);
    }

    static void promise09_behindTheLastThereIsNone(Edges is) {
        is.due("[1e]", x -> x.pendant(0, 1), NONE);
        is.due("[1e^2e]", x -> x.pendant(0, 1), NONE);
        is.due("[1e(2e)3e^4e][5e]", x -> x.pendant(0, 2), NONE);
        is.due("[1e]", x -> x.pendant(0, MOST), NONE);
        String full = "[" + Texts.repeated("1e", 16) + "]";
        is.due(full, x -> x.pendant(0, 15), 15);
        is.due(full, x -> x.pendant(0, 16), NONE);
        is.refused(x -> x.dye(0, 2), x -> x.pendant(0, 2), NONE);
    }

    static void promise09_below0IsBad(Edges is) {
        is.refused(x -> x.dye(0, 2), x -> x.pendant(0, -1), BAD);
        is.due("least", new ToldInKnots().pendant(1, LEAST), BAD);
    }

    static void promise09_aGroupThatThereIsNotIsBad(Edges is) {
        is.refused(x -> x.dye(0, 2), x -> x.pendant(2, 0), BAD);
        is.refused(x -> x.dye(0, 2), x -> x.pendant(-1, 0), BAD);
        is.due("least", new ToldInKnots().pendant(LEAST, 0), BAD);
        is.due("most", new ToldInKnots().pendant(MOST, 0), BAD);
        is.due(Texts.repeated("[1e]", 5), x -> x.pendant(4, 0), 4);
        is.due(Texts.repeated("[1e]", 5), x -> x.pendant(5, 0), BAD);
    }

    static void promise09_badIsAheadOfNone(Edges is) {
        is.due("no GROUP, no PENDANT", new ToldInKnots().pendant(2, MOST), BAD);
        is.due("no GROUP below 0, no PENDANT", new ToldInKnots().pendant(-1, MOST), BAD);
    }

    static void promise09_oneThatWasHungIsBehind(Edges is) {
        ToldInKnots x = Texts.laid("[1e2e^3e][4e5e]");
        x.hang(0, 1);
        is.due("the first that is left", x.pendant(0, 0), 1);
        is.due("no more", x.pendant(0, 1), NONE);
        is.due("the first", x.pendant(1, 0), 3);
        is.due("the second", x.pendant(1, 1), 4);
        is.due("the one that was HUNG", x.pendant(1, 2), 0);
        is.due("no more there", x.pendant(1, 3), NONE);
    }
}
