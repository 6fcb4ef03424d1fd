/** Boundary cases of promises 16 to 20: groups that are wrong, what is lost, gaps that have closed. */
public final class GroupEdgesTest {
    private static final int BAD = Edges.BAD, NO = Edges.NO, NONE = Edges.NONE, LEAST = Edges.LEAST, MOST = Edges.MOST;
    private static final String LONGEST = "1s9s9s9l9";
    /** A GROUP 0 each for which SUM or the WHOLE of the TOP is none, by every way in which that can be. */
    private static final String[] WITHOUT = {"[1l3]", "[1s3^2l3]", "[1l3(3s1)^2l3]", "[1l3(3e(4s1))^2l3]",
        "[1l3(3e4s1)^2l3]", "[1l35s1^2l3]", "[1l35e(3s1)^2l3]", "[1l3^2s3]", "[1l3^2l3(3s1)]", "[1l3^2l3(3e(4s1))]",
        "[1e.^2l3]", "[1l3^2l2.]"};

    private GroupEdgesTest() {
    }

    public static void main(String[] args) throws IllegalAccessException {
        Edges.run(GroupEdgesTest.class, 16, 20);
    }

    /** GROUP 0 is by 2 wrong, GROUP 1 has no TOP; busy. */
    private static void small(ToldInKnots x) {
        Texts.write(x, "[1l3(2l4)3e^5s1.][6s7]");
        x.lay();
        x.keep();
        x.dye(0, 9);
        x.tie(2, 5);
        x.tie(3, 10);
        Texts.write(x, "[1e]");
    }

    private static void refused(Edges is, Edges.Call call, int want) {
        is.refused(GroupEdgesTest::small, call, want);
    }

    // 16: wrong

    static void promise16_rightIs100000(Edges is) {
        is.due("[1l3^2l3]", x -> x.wrong(0), 100000);
        is.due("[1.^2.]", x -> x.wrong(0), 100000);
        is.due("[1l3(2l4)^2l5(1l2)]", x -> x.wrong(0), 100000);
    }

    static void promise16_oneMoreAndOneLess(Edges is) {
        is.due("[1l3^2l2]", x -> x.wrong(0), 100001);
        is.due("[1l2^2l3]", x -> x.wrong(0), 99999);
        is.due("[1.(3e)^2.]", x -> x.wrong(0), 100001);
        is.due("[1.^2.(3e)]", x -> x.wrong(0), 99999);
    }

    static void promise16_theMostAndTheLeast(Edges is) {
        is.due("[" + Texts.repeated(LONGEST, 15) + "^2.]", x -> x.wrong(0), 100000 + 15 * 9999);
        is.due("[1.^" + LONGEST + "(" + Texts.repeated(LONGEST, 14) + ")]", x -> x.wrong(0), 100000 - 15 * 9999);
    }

    static void promise16_withoutSumTopOrWholeNone(Edges is) {
        for (String text : WITHOUT) {
            is.due(text, x -> x.wrong(0), NONE);
        }
        refused(is, x -> x.wrong(1), NONE);
    }

    static void promise16_aGroupThatThereIsNotIsBad(Edges is) {
        for (int g : new int[] {-1, 2, 5, LEAST, MOST}) {
            refused(is, x -> x.wrong(g), BAD);
        }
        is.due(Texts.repeated("[1e^2.]", 5), x -> x.wrong(4), 100001);
        is.due(Texts.repeated("[1e^2.]", 5), x -> x.wrong(5), BAD);
    }

    static void promise16_anotherGroupCountsNot(Edges is) {
        is.due("[1s1^2s1][1l3^2l3]", x -> x.wrong(0), NONE);
        is.due("[1s1^2s1][1l3^2l3]", x -> x.wrong(1), 100000);
    }

    // 17: mend

    private static void mend(Edges is, String text, int want) {
        is.due(text, x -> x.mend(0), want);
    }

    static void promise17_rightIs0(Edges is) {
        mend(is, "[1l3^2l3]", 0);
        mend(is, "[1.^2.]", 0);
        mend(is, "[1l9(2l9)^3l9(4l9)]", 0);
    }

    static void promise17_oneMoreAsWellAsOneLessIs1(Edges is) {
        mend(is, "[1l3^2l2]", 1);
        mend(is, "[1l2^2l3]", 1);
        mend(is, "[1l2^2e]", 1);
        mend(is, "[1.^2e]", 1);
        mend(is, "[1s1.^2s2.]", 1);
        mend(is, "[1s9s9s9l8^2s9s9s9l9]", 1);
    }

    static void promise17_noClusterComesBelow0(Edges is) {
        mend(is, "[1.(2e)^3.]", 1);
        mend(is, "[1.(2l9)^3.]", 9);
        mend(is, "[1l5(2l5)^3e]", 9);
        mend(is, "[1l9(2e)^3s1.(4e)]", 10);
    }

    static void promise17_noClusterComesAbove9(Edges is) {
        mend(is, "[1l9^3s1.]", 10);
        mend(is, "[1l9(2e)^3s1l2]", 2);
        mend(is, "[1s9l9^3s1..]", 19);
        mend(is, "[1.^3.(4l9)]", 9);
    }

    static void promise17_justSoThatItCanBe(Edges is) {
        mend(is, "[1.(2s1.)^3.(4e)]", 9);
        mend(is, "[1.(5e)^3.(4s1.)]", 9);
        mend(is, "[1l9(2l9)^3.(4l9)]", 9);
        mend(is, "[1.^2s9s9s9l9]", 36);
        mend(is, "[1....^2s9s9s9l9]", 36);
        mend(is, "[" + Texts.repeated(LONGEST, 15) + "^2.]", 15 * 36);
    }

    static void promise17_justSoThatItCanNotBe(Edges is) {
        mend(is, "[1.(2s1.)^3.]", NONE);
        mend(is, "[1.^3.(4s1.)]", NONE);
        mend(is, "[1l9(2e)^3l9(4s2.)]", NONE);
        mend(is, "[1l9(2s2.)^3l9(4e)]", NONE);
        mend(is, "[1s9.(2s2..)^3s1.]", NONE);
    }

    static void promise17_overPlaces(Edges is) {
        mend(is, "[1.l8^2s1.]", 9);
        mend(is, "[1s9s9.^2s1...]", 19);
        mend(is, "[1s1...^2s9s9s9l9]", 35);
    }

    static void promise17_aFullCordEndsAheadOfTheNext(Edges is) {
        mend(is, "[1s9s9s9l92e^3.]", 37);
        mend(is, "[1s9s9s9l92e^3l9(4s9s9s9l9)]", 8);
    }

    static void promise17_noneOfWhatHangsCounts(Edges is) {
        mend(is, "[1.(2s2.)^3s1.]", 1);
        mend(is, "[1.(2s2.(3s2.))^3s9.]", 5);
    }

    static void promise17_withoutSumTopOrWholeNone(Edges is) {
        for (String text : WITHOUT) {
            mend(is, text, NONE);
        }
        refused(is, x -> x.mend(1), NONE);
    }

    static void promise17_aGroupThatThereIsNotIsBad(Edges is) {
        for (int g : new int[] {-1, 2, 5, LEAST, MOST}) {
            refused(is, x -> x.mend(g), BAD);
        }
        is.due(Texts.repeated("[1e^2.]", 5), x -> x.mend(4), 1);
        is.due(Texts.repeated("[1e^2.]", 5), x -> x.mend(5), BAD);
    }

    static void promise17_itIsAskedNotDone(Edges is) {
        is.unchanged(GroupEdgesTest::small, x -> x.mend(0));
    }

    // 18: slip

    private static void slip(Edges is, String text, int ways, int first) {
        is.due(text, x -> x.slip(0, 0), ways);
        is.due(text, x -> x.slip(0, 1), first);
    }

    static void promise18_rightHasNoWay(Edges is) {
        slip(is, "[1l3^2l3]", 0, NONE);
        slip(is, "[1.^2....]", 0, NONE);
    }

    static void promise18_numbersFrom0To9(Edges is) {
        slip(is, "[1e^2.]", 2, 0);
        slip(is, "[1l8^2l9]", 2, 9);
        slip(is, "[1.^2l9]", 2, 9);
        slip(is, "[1l9^2.]", 2, 0);
        slip(is, "[1s9...^2....]", 2, 30);
        slip(is, "[1....^2s9...]", 2, 39);
    }

    static void promise18_noNumberBelow0(Edges is) {
        slip(is, "[1.(4e)^3.]", 1, 201);
        slip(is, "[1l9^2s1.]", 0, NONE);
        slip(is, "[1.^3.(4e)]", 1, 1);
    }

    static void promise18_noNumberAbove9(Edges is) {
        slip(is, "[1l9(2e)^3l9]", 1, 8);
        slip(is, "[1l9^3l9(4e)]", 1, 108);
        slip(is, "[1l9(2e(5e))^3l9(4e)]", 1, 8);
        slip(is, "[1s9.(2s1.)^3s9.]", 1, 18);
    }

    static void promise18_placesAreApart(Edges is) {
        slip(is, "[1..^2s9.]", 2, 19);
        slip(is, "[1..^2s1e]", 0, NONE);
        slip(is, "[1...^2s1s1.]", 0, NONE);
        slip(is, "[1s2s2l2^2s2s3l2]", 2, 13);
    }

    static void promise18_theFirstByCordThenCluster(Edges is) {
        slip(is, "[1.2.^3l2]", 3, 2);
        slip(is, "[1l92.^3s1l2]", 1, 103);
        slip(is, "[1s1.2e^3l2]", 0, NONE);
        slip(is, "[1l2(9e)1l3^3l9]", 3, 5);
    }

    static void promise18_aFullCordEndsAheadOfTheNext(Edges is) {
        slip(is, "[1s9s9s9l92e^3.]", 0, NONE);
        slip(is, "[1s9s9s9l92.^3.]", 0, NONE);
        slip(is, "[1....2.^3s9s9s9l9(4e)]", 0, NONE);
    }

    static void promise18_fromTheLastCord(Edges is) {
        String text = "[" + Texts.repeated("1.", 13) + "][1.(2e)^3.]";
        is.due(text, x -> x.slip(1, 0), 1);
        is.due(text, x -> x.slip(1, 1), 1501);
    }

    static void promise18_noneOfWhatHangsIsOne(Edges is) {
        slip(is, "[1.(2e)^3.]", 1, 201);
        slip(is, "[1.(2e.)^3.]", 0, NONE);
    }

    static void promise18_withoutSumTopOrWholeNoWay(Edges is) {
        for (String text : WITHOUT) {
            slip(is, text, 0, NONE);
        }
        refused(is, x -> x.slip(1, 1), NONE);
    }

    static void promise18_whatIs0And1(Edges is) {
        for (int what : new int[] {-1, 2, LEAST, MOST}) {
            refused(is, x -> x.slip(0, what), BAD);
        }
    }

    static void promise18_badIsAheadOfNone(Edges is) {
        refused(is, x -> x.slip(1, 2), BAD);
        refused(is, x -> x.slip(1, -1), BAD);
    }

    static void promise18_aGroupThatThereIsNotIsBad(Edges is) {
        for (int g : new int[] {-1, 2, 5, LEAST, MOST}) {
            refused(is, x -> x.slip(g, 0), BAD);
            refused(is, x -> x.slip(g, 1), BAD);
        }
        is.due(Texts.repeated("[1e^2.]", 5), x -> x.slip(4, 1), 800);
        is.due(Texts.repeated("[1e^2.]", 5), x -> x.slip(5, 1), BAD);
    }

    static void promise18_itIsAskedNotDone(Edges is) {
        is.unchanged(GroupEdgesTest::small, x -> x.slip(0, 0) + x.slip(0, 1));
    }

    // 19: lost

    private static void lost(Edges is, String text, int want) {
        is.due(text, x -> x.lost(0), want);
    }

    static void promise19_0IsOne(Edges is) {
        lost(is, "[1e^2.]", 0);
        lost(is, "[1e(2e)^3e]", 0);
        lost(is, "[1e2e^3e]", 0);
    }

    static void promise19_below0None(Edges is) {
        lost(is, "[1e(2e)^3.]", NONE);
        lost(is, "[1e2l2^3e]", NONE);
        lost(is, "[1e(2e)2e^3e]", NONE);
        lost(is, "[1.(2l9)^3.]", NONE);
        is.refused(x -> { Texts.write(x, "[1e(2e)^3.]"); x.lay(); }, x -> x.lost(0), NONE);
    }

    static void promise19_9999IsOne(Edges is) {
        lost(is, "[1e^2s9s9s9l9]", 9999);
        lost(is, "[1e^2s9s9s9l8(3e)]", 9999);
        lost(is, "[1e2e^2s9s9s9l9(3e)]", 9999);
    }

    static void promise19_above9999None(Edges is) {
        lost(is, "[1e^2s9s9s9l9(3e)]", NONE);
        lost(is, "[1e2.^2s9s9s9l9(3s9s9s9l9)]", NONE);
    }

    static void promise19_asManyFiguresAsItTakes(Edges is) {
        lost(is, "[1e^2s1s2l3]", 123);
        lost(is, "[1.^2s1.]", 10);
    }

    static void promise19_withoutTopNone(Edges is) {
        lost(is, "[1e]", NONE);
        lost(is, "[1e][2l5^3l9]", NONE);
        refused(is, x -> x.lost(4), NONE);
    }

    static void promise19_withoutWholeOfTheTopNone(Edges is) {
        lost(is, "[1e^2s9]", NONE);
        lost(is, "[1e^2l9(3s1)]", NONE);
        lost(is, "[1e^2l9(3e(4s1))]", NONE);
    }

    static void promise19_withoutWholeOfAnotherPendantNone(Edges is) {
        lost(is, "[1e2s1^3l9]", NONE);
        lost(is, "[1e2e(3s1)^3l9]", NONE);
        lost(is, "[1e2e(3e(4s1))^3l9]", NONE);
        lost(is, "[1e2e3s1^3l9]", NONE);
        lost(is, "[1e2e^3l9][4s1]", 8);
    }

    static void promise19_withoutWholeOfWhatHangsFromItNone(Edges is) {
        lost(is, "[1e(2s1)^3l9]", NONE);
        lost(is, "[1e(2e(3s1))^3l9]", NONE);
        lost(is, "[1e(2e4s1)^3l9]", NONE);
        lost(is, "[1e(2e(3e)4e)^3l9]", 6);
    }

    static void promise19_anyPendantOfTheGroup(Edges is) {
        String text = "[9s9][1l2(1e)1l3(1l4)1l5^1s4.]";
        is.due(text, x -> x.lost(1), 40 - 1 - 3 - 4 - 5);
        is.due(text, x -> x.lost(3), 40 - 2 - 1 - 4 - 5);
        is.due(text, x -> x.lost(5), 40 - 2 - 1 - 3 - 4);
        is.due("[1s12e^3l9]", x -> x.lost(0), 8);
        is.due("[1s12e^3l9]", x -> x.lost(1), NONE);
        is.due("[1e2s1^3l9]", x -> x.lost(1), 8);
    }

    static void promise19_oneThatWasHungCountsInItsNewGroup(Edges is) {
        ToldInKnots x = Texts.laid("[1l2(1e)1l3^1l9][1l5^1s2.]");
        x.hang(0, 1);
        is.due("its own", x.lost(0), 20 - 5 - 1);
        is.due("of one that was there", x.lost(4), 20 - 2 - 1);
        is.due("of one that stays", x.lost(2), 9);
    }

    static void promise19_itsOwnValueIsNotAsked(Edges is) {
        lost(is, "[1s5^2l9]", 9);
        lost(is, "[1s5(2l2)^2l9]", 7);
        lost(is, "[1e...^2l9]", 9);
        lost(is, "[1s9s9s9s9^2.]", 0);
    }

    static void promise19_noPendantIsNo(Edges is) {
        refused(is, x -> x.lost(1), NO);
        is.due("[1e(2e(3e))^4e(5e(6e))]", x -> x.lost(2), NO);
        is.due("[1e(2e(3e))^4e(5e(6e))]", x -> x.lost(4), NO);
        is.due("[1e(2e(3e))^4e(5e(6e))]", x -> x.lost(5), NO);
    }

    static void promise19_aTopIsNo(Edges is) {
        refused(is, x -> x.lost(3), NO);
        is.due("[1e^2e]", x -> x.lost(1), NO);
    }

    static void promise19_noIsAheadOfNone(Edges is) {
        is.due("[1e(2e)]", x -> x.lost(1), NO);
        is.due("[1s1(2e)^3s1]", x -> x.lost(1), NO);
        is.due("[1s1(2e)^3s1]", x -> x.lost(2), NO);
    }

    static void promise19_aCordThatThereIsNotIsBad(Edges is) {
        for (int c : new int[] {-1, 5, 16, LEAST, MOST}) {
            refused(is, x -> x.lost(c), BAD);
        }
        is.due("[1e][1e][1e^2l7]", x -> x.lost(2), 7);
        is.due("[1e][1e][1e^2l7]", x -> x.lost(4), BAD);
    }

    static void promise19_tiedSoTheGroupIsRight(Edges is) {
        ToldInKnots x = new ToldInKnots();
        is.due("lost", x.lost(0), 292);
        is.due("GROUP is RIGHT", x.tie(0, 292) < 0 ? 0 : x.group(0, 3), 1);
    }

    // 20: closed

    private static void closed(Edges is, String clusters, int p, int ways, int least) {
        is.due("[1" + clusters + "]", x -> x.closed(0, p, 0), ways);
        is.due("[1" + clusters + "]", x -> x.closed(0, p, 1), least);
    }

    static void promise20_placesAre1To6(Edges is) {
        for (int p = 1; p <= 6; p++) {
            closed(is, ".", p, 1, 0);
            closed(is, "e", p, 1, 1);
            closed(is, "s3", p, p - 1, p == 1 ? NONE : 30);
        }
    }

    static void promise20_otherPlacesAreBad(Edges is) {
        for (int p : new int[] {0, 7, -1, LEAST, MOST}) {
            refused(is, x -> x.closed(0, p, 0), BAD);
            refused(is, x -> x.closed(0, p, 1), BAD);
        }
    }

    static void promise20_whatIs0And1(Edges is) {
        for (int what : new int[] {-1, 2, LEAST, MOST}) {
            refused(is, x -> x.closed(0, 3, what), BAD);
        }
    }

    static void promise20_aCordThatThereIsNotIsBad(Edges is) {
        for (int c : new int[] {-1, 5, 16, LEAST, MOST}) {
            refused(is, x -> x.closed(c, 3, 0), BAD);
            refused(is, x -> x.closed(c, 3, 1), BAD);
        }
        is.due("[1e2l5]", x -> x.closed(1, 1, 1), 5);
    }

    static void promise20_badIsAheadOfNone(Edges is) {
        is.due("[1s3]", x -> x.closed(0, 1, 1), NONE);
        is.due("[1s3]", x -> x.closed(0, 0, 1), BAD);
        is.due("[1s3]", x -> x.closed(0, 1, 2), BAD);
        is.due("[1s3]", x -> x.closed(1, 1, 1), BAD);
    }

    static void promise20_gapsAloneHaveOneWay(Edges is) {
        for (int p = 1; p <= 6; p++) {
            closed(is, "....", p, 1, 0);
        }
    }

    static void promise20_aFullCordEndsAheadOfTheNext(Edges is) {
        closed(is, "s1s2s3l42l5", 4, 1, 1234);
        closed(is, "s1s2s3s42l5", 5, 1, 12340);
        closed(is, "....2s1", 1, 1, 0);
        closed(is, "...l22l5", 1, 1, 2);
    }

    static void promise20_asManyPlacesAsItTakes(Edges is) {
        closed(is, "s1s2s3l4", 3, 0, NONE);
        closed(is, "s1s2s3l4", 4, 1, 1234);
        closed(is, "s1s2s3l4", 5, 4, 1234);
        closed(is, "s1s2s3l4", 6, 10, 1234);
        closed(is, "s2.l3", 1, 0, NONE);
        closed(is, "s2.l3", 2, 1, 23);
        closed(is, "s2.l3", 3, 2, 23);
    }

    static void promise20_onesStayAGapForSingleAlone(Edges is) {
        closed(is, "s1s2s3s4", 4, 0, NONE);
        closed(is, "s1s2s3s4", 5, 1, 12340);
        closed(is, "s1s2s3s4", 6, 5, 12340);
        closed(is, "s9s9s9s9", 5, 1, 99990);
        closed(is, "s1", 1, 0, NONE);
        closed(is, "s1", 2, 1, 10);
    }

    static void promise20_aLongKnotOrAnEightEndsIt(Edges is) {
        closed(is, "l2s1", 6, 0, NONE);
        closed(is, "es1", 6, 0, NONE);
        closed(is, "el2", 6, 0, NONE);
        closed(is, "l2l2", 6, 0, NONE);
        closed(is, "ee", 6, 0, NONE);
        closed(is, "s1es1", 6, 0, NONE);
        closed(is, "l2...", 1, 1, 2);
        closed(is, "e...", 6, 1, 1);
        closed(is, "s9...", 2, 1, 90);
    }

    static void promise20_itIsAskedNotDone(Edges is) {
        is.unchanged(GroupEdgesTest::small, x -> x.closed(0, 6, 0) + x.closed(0, 6, 1));
    }
}
