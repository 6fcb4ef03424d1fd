/** Boundary cases of promises 10 to 15: the five changes, and how they are undone. */
public final class ChangeEdgesTest {
    private static final int BAD = Edges.BAD, NO = Edges.NO, NONE = Edges.NONE, LEAST = Edges.LEAST, MOST = Edges.MOST;
    private static final int VALUE = 7;
    private static final String[] SIZES = {"1.", "1..", "1...", "1...."};
    private static final int[] MOST_TOLD = {9, 99, 999, 9999};
    private static final String SMALL = "[1s2l3(2s4)3e^5l4][6s7]";

    private ChangeEdgesTest() {
    }

    public static void main(String[] args) throws IllegalAccessException {
        Edges.run(ChangeEdgesTest.class, 10, 15);
    }

    /** CORDS 0 (23), 1 (SINGLE 4, hangs from 0), 2 (1), 3 (4, a TOP), 4 (SINGLE 7, alone in GROUP 1); busy. */
    private static void small(ToldInKnots x) {
        Texts.write(x, SMALL);
        x.lay();
        x.keep();
        x.dye(0, 9);
        x.tie(2, 5);
        Texts.write(x, "[1e]");
    }

    private static void refused(Edges is, Edges.Call call, int want) {
        is.refused(ChangeEdgesTest::small, call, want);
    }

    // 10: tie

    static void promise10_aValueOf0IsAllowed(Edges is) {
        for (String cord : SIZES) {
            is.due("[" + cord + "]", x -> x.tie(0, 0), 0);
        }
        is.due("[1s9s9s9l9]", x -> x.tie(0, 0), 36);
    }

    static void promise10_aValueBelow0IsBad(Edges is) {
        refused(is, x -> x.tie(0, -1), BAD);
        refused(is, x -> x.tie(0, -99), BAD);
        refused(is, x -> x.tie(0, LEAST), BAD);
    }

    static void promise10_asManyFiguresAsClusters(Edges is) {
        for (int i = 0; i < SIZES.length; i++) {
            int most = MOST_TOLD[i];
            String text = "[" + SIZES[i] + "2....]";
            is.due(text, x -> x.tie(0, most), 9 * (i + 1));
            is.due(text, x -> x.tie(0, most) < 0 ? NO : x.cord(0, VALUE), most);
            is.due(text, x -> x.tie(0, most + 1), NO);
            is.due(text, x -> x.tie(0, 10 * most), NO);
            is.due(text, x -> x.tie(0, MOST), NO);
        }
    }

    static void promise10_tooManyFiguresChangeNothing(Edges is) {
        refused(is, x -> x.tie(0, 100), NO);
        refused(is, x -> x.tie(1, 10), NO);
        refused(is, x -> x.tie(3, MOST), NO);
    }

    static void promise10_aCordThatThereIsNotIsBad(Edges is) {
        refused(is, x -> x.tie(5, 0), BAD);
        refused(is, x -> x.tie(-1, 0), BAD);
        refused(is, x -> x.tie(LEAST, 0), BAD);
        refused(is, x -> x.tie(MOST, 0), BAD);
        is.due("the last there is", new ToldInKnots().tie(6, 0), 0);
    }

    static void promise10_badIsAheadOfNo(Edges is) {
        refused(is, x -> x.tie(5, MOST), BAD);
        refused(is, x -> x.tie(-1, 100000), BAD);
    }

    static void promise10_onesAreGapEightOrLong(Edges is) {
        ToldInKnots x = Texts.laid("[1s9]");
        int[] codes = {0, 31, 22, 23, 24, 25, 26, 27, 28, 29};
        for (int v = 0; v <= 9; v++) {
            x.tie(0, v);
            is.due("the ones of " + v, x.cluster(0, 0), codes[v]);
        }
    }

    static void promise10_othersAreGapOrSingle(Edges is) {
        ToldInKnots x = Texts.laid("[1eeee]");
        for (int figure = 0; figure <= 9; figure++) {
            x.tie(0, 1110 * figure);
            for (int k = 1; k <= 3; k++) {
                is.due("CLUSTER " + k + " of " + 1110 * figure, x.cluster(0, k), figure == 0 ? 0 : 10 + figure);
            }
            is.due("a GAP at the ones", x.cluster(0, 0), 0);
        }
    }

    static void promise10_figuresComeToTheirPlaces(Edges is) {
        ToldInKnots x = Texts.laid("[1....2....]");
        is.due("WORK", x.tie(1, 1203), 6);
        int[] codes = {23, 0, 12, 11};
        for (int k = 0; k < 4; k++) {
            is.due("CLUSTER " + k, x.cluster(1, k), codes[k]);
            is.due("the other CORD", x.cluster(0, k), 0);
        }
    }

    static void promise10_aFullCordEndsAheadOfTheNext(Edges is) {
        ToldInKnots x = Texts.laid("[1s1s2s3l42l9(3e)]");
        is.due("as it is", x.tie(0, 1234), 0);
        is.due("WORK", x.tie(0, 0), 10);
        is.due("the next", x.cluster(1, 0), 29);
        is.due("WORK to the most", x.tie(0, 9999), 36);
        is.due("the next still", x.cluster(1, 0), 29);
        is.due("the next to 0", x.tie(1, 0), 9);
        is.due("VALUE", x.cord(0, VALUE), 9999);
    }

    static void promise10_noWorkWhereNothingBecomesAnother(Edges is) {
        is.due("[1s2.l3]", x -> x.tie(0, 203), 0);
        is.due("[1.]", x -> x.tie(0, 0), 0);
        is.due("[1...e]", x -> x.tie(0, 1), 0);
    }

    static void promise10_workIsOfThoseThatBecomeOthers(Edges is) {
        is.due("[1s2.l3]", x -> x.tie(0, 204), 3 + 4);
        is.due("[1s2.l3]", x -> x.tie(0, 303), 2 + 3);
        is.due("[1s2.l3]", x -> x.tie(0, 213), 1);
        is.due("[1s2.l3]", x -> x.tie(0, 3), 2);
        is.due("[1s2.l3]", x -> x.tie(0, 312), 2 + 3 + 1 + 3 + 2);
    }

    static void promise10_anEightIs2OfTheWork(Edges is) {
        is.due("[1.]", x -> x.tie(0, 1), 2);
        is.due("[1e]", x -> x.tie(0, 0), 2);
        is.due("[1e]", x -> x.tie(0, 2), 2 + 2);
        is.due("[1l2]", x -> x.tie(0, 1), 2 + 2);
    }

    static void promise10_aKindThatBecomesAnotherIsWork(Edges is) {
        is.due("[1s1]", x -> x.tie(0, 1), 1 + 2);
        is.due("[1s5]", x -> x.tie(0, 5), 5 + 5);
        is.due("[1l5.]", x -> x.tie(0, 50), 5 + 5);
        is.due("[1e.]", x -> x.tie(0, 10), 2 + 1);
    }

    static void promise10_anyCordCanBeTied(Edges is) {
        ToldInKnots x = Texts.laid("[1s1(2s1(3s1))^4s1(5s1)]");
        for (int c = 0; c < 5; c++) {
            is.due("tie(" + c + ", 9)", x.tie(c, 9), 1 + 9);
            is.due("VALUE", x.cord(c, VALUE), 9);
        }
    }

    static void promise10_asItIsCanBeUndoneToo(Edges is) {
        ToldInKnots x = new ToldInKnots();
        is.due("tie", x.tie(0, 203), 0);
        is.due("count(5)", x.count(5), 1);
    }

    // 11: more

    static void promise11_numbersFromMinus9999To9999(Edges is) {
        is.due("[1....]", x -> x.more(0, 9999), 9999);
        is.due("[1s9s9s9l9]", x -> x.more(0, -9999), 0);
        refused(is, x -> x.more(0, 9999), NO);
        refused(is, x -> x.more(0, -9999), NO);
    }

    static void promise11_numbersBeyondAreBad(Edges is) {
        refused(is, x -> x.more(0, 10000), BAD);
        refused(is, x -> x.more(0, -10000), BAD);
        refused(is, x -> x.more(0, MOST), BAD);
        refused(is, x -> x.more(0, LEAST), BAD);
    }

    static void promise11_aCordThatThereIsNotIsBad(Edges is) {
        refused(is, x -> x.more(5, 0), BAD);
        refused(is, x -> x.more(-1, 0), BAD);
        refused(is, x -> x.more(LEAST, 0), BAD);
        refused(is, x -> x.more(MOST, 0), BAD);
        is.due("the last there is", new ToldInKnots().more(6, 1), 1);
    }

    static void promise11_downTo0(Edges is) {
        is.due("[1s2.l3]", x -> x.more(0, -203), 0);
        is.due("[1s2.l3]", x -> x.more(0, -204), NO);
        is.due("[1.]", x -> x.more(0, 0), 0);
        is.due("[1.]", x -> x.more(0, -1), NO);
        refused(is, x -> x.more(0, -24), NO);
    }

    static void promise11_upToWhatItCanTell(Edges is) {
        for (int i = 0; i < SIZES.length; i++) {
            int most = MOST_TOLD[i];
            String text = "[" + SIZES[i] + "2....]";
            is.due(text, x -> x.more(0, most), most);
            is.due(text, x -> x.more(0, most) + x.more(0, 1), most + NO);
            is.due(text, x -> x.more(0, Math.min(most + 1, 9999)), most == 9999 ? 9999 : NO);
        }
        refused(is, x -> x.more(0, 77), NO);
        is.due(SMALL, x -> x.more(0, 76), 99);
    }

    static void promise11_notWellKnottedIsNo(Edges is) {
        refused(is, x -> x.more(1, 0), NO);
        refused(is, x -> x.more(1, 1), NO);
        refused(is, x -> x.more(1, -1), NO);
        refused(is, x -> x.more(1, 4), NO);
        refused(is, x -> x.more(1, 5), NO);
        refused(is, x -> x.more(1, 9999), NO);
        is.due("[1e.]", x -> x.more(0, 4), NO);
        is.due("[1l2...]", x -> x.more(0, 1000), NO);
    }

    static void promise11_badIsAheadOfNo(Edges is) {
        refused(is, x -> x.more(1, 10000), BAD);
        refused(is, x -> x.more(1, -10000), BAD);
        refused(is, x -> x.more(5, -9999), BAD);
    }

    static void promise11_byNothingIsMoreToo(Edges is) {
        ToldInKnots x = Texts.laid(SMALL);
        is.due("more", x.more(0, 0), 23);
        is.due("count(5)", x.count(5), 1);
    }

    static void promise11_overTens(Edges is) {
        ToldInKnots x = Texts.laid("[1.s9s9l9]");
        is.due("to 1000", x.more(0, 1), 1000);
        int[] codes = {0, 0, 0, 11};
        for (int k = 0; k < 4; k++) {
            is.due("CLUSTER " + k, x.cluster(0, k), codes[k]);
        }
        is.due("to 999", x.more(0, -1), 999);
        is.due("VALUE", x.cord(0, VALUE), 999);
    }

    // 12: knot

    private static void knotted(Edges is, int kind, int n, int code, int knots) {
        is.due(SMALL, x -> x.knot(1, 0, kind, n), knots);
        is.due(SMALL, x -> x.knot(1, 0, kind, n) < 0 ? BAD : x.cluster(1, 0), code);
    }

    private static void notKnotted(Edges is, int kind, int n) {
        refused(is, x -> x.knot(1, 0, kind, n), BAD);
    }

    static void promise12_aGapCounts0(Edges is) {
        knotted(is, 0, 0, 0, 0);
        notKnotted(is, 0, -1);
        notKnotted(is, 0, 1);
        notKnotted(is, 0, 10);
    }

    static void promise12_singleKnotsCount1To9(Edges is) {
        for (int n = 1; n <= 9; n++) {
            knotted(is, 1, n, 10 + n, n);
        }
        notKnotted(is, 1, 0);
        notKnotted(is, 1, 10);
        notKnotted(is, 1, -1);
    }

    static void promise12_aLongKnotCounts2To9(Edges is) {
        for (int n = 2; n <= 9; n++) {
            knotted(is, 2, n, 20 + n, n);
        }
        notKnotted(is, 2, 1);
        notKnotted(is, 2, 10);
        notKnotted(is, 2, 0);
    }

    static void promise12_anEightCounts1(Edges is) {
        knotted(is, 3, 1, 31, 2);
        notKnotted(is, 3, 0);
        notKnotted(is, 3, 2);
        notKnotted(is, 3, -1);
    }

    static void promise12_kindsAre0To3(Edges is) {
        for (int n = 0; n <= 2; n++) {
            notKnotted(is, -1, n);
            notKnotted(is, 4, n);
            notKnotted(is, LEAST, n);
            notKnotted(is, MOST, n);
        }
    }

    static void promise12_farNumbersAreBad(Edges is) {
        for (int kind = 0; kind <= 3; kind++) {
            notKnotted(is, kind, LEAST);
            notKnotted(is, kind, MOST);
        }
    }

    static void promise12_aClusterThatThereIsNotIsBad(Edges is) {
        refused(is, x -> x.knot(0, 2, 1, 1), BAD);
        refused(is, x -> x.knot(0, -1, 1, 1), BAD);
        refused(is, x -> x.knot(1, 1, 1, 1), BAD);
        refused(is, x -> x.knot(0, MOST, 1, 1), BAD);
        refused(is, x -> x.knot(0, LEAST, 1, 1), BAD);
        is.due(SMALL, x -> x.knot(0, 1, 1, 9), 9 + 3);
        is.due("[1s9s9s9l9]", x -> x.knot(0, 3, 0, 0), 27);
        is.due("[1s9s9s9l9]", x -> x.knot(0, 4, 0, 0), BAD);
    }

    static void promise12_aCordThatThereIsNotIsBad(Edges is) {
        refused(is, x -> x.knot(5, 0, 1, 1), BAD);
        refused(is, x -> x.knot(-1, 0, 1, 1), BAD);
        refused(is, x -> x.knot(LEAST, 0, 1, 1), BAD);
        refused(is, x -> x.knot(MOST, 0, 1, 1), BAD);
        is.due(SMALL, x -> x.knot(4, 0, 1, 9), 9);
    }

    static void promise12_anyKindAtAnyPlace(Edges is) {
        ToldInKnots x = Texts.laid("[1s2s2s2l2]");
        int[][] put = {{0, 0}, {1, 1}, {1, 9}, {2, 2}, {2, 9}, {3, 1}};
        for (int k = 0; k < 4; k++) {
            for (int[] one : put) {
                x.knot(0, k, one[0], one[1]);
                is.due("CLUSTER " + k, x.cluster(0, k), 10 * one[0] + one[1]);
            }
        }
        is.due("four EIGHTS", x.cord(0, 10), 8);
    }

    static void promise12_thatClusterAlone(Edges is) {
        for (int c = 0; c < 16; c++) {
            ToldInKnots x = Texts.laid("[" + Texts.repeated("1....", 16) + "]");
            x.knot(c, c % 4, 1, 5);
            for (int d = 0; d < 16; d++) {
                for (int k = 0; k < 4; k++) {
                    is.due("CLUSTER " + k + " of " + d, x.cluster(d, k), d == c && k == c % 4 ? 15 : 0);
                }
            }
        }
    }

    static void promise12_answersKnotsOfTheCordAlone(Edges is) {
        is.due("[1s9.l9(2l9)]", x -> x.knot(0, 1, 1, 1), 19);
        is.due("[1s9.l9(2l9)]", x -> x.knot(1, 0, 3, 1), 2);
    }

    static void promise12_theSameAgainCanBeUndoneToo(Edges is) {
        ToldInKnots x = Texts.laid(SMALL);
        is.due("knot", x.knot(1, 0, 1, 4), 4);
        is.due("count(5)", x.count(5), 1);
    }

    // 13: dye

    static void promise13_coloursAre0To9(Edges is) {
        for (int colour = 0; colour <= 9; colour++) {
            int dyed = colour;
            is.due("[7e]", x -> x.dye(0, dyed), 7);
            is.due("[7e]", x -> x.dye(0, dyed) < 0 ? BAD : x.cord(0, 0), dyed);
        }
    }

    static void promise13_otherColoursAreBad(Edges is) {
        refused(is, x -> x.dye(0, 10), BAD);
        refused(is, x -> x.dye(0, -1), BAD);
        refused(is, x -> x.dye(0, LEAST), BAD);
        refused(is, x -> x.dye(0, MOST), BAD);
        refused(is, x -> x.dye(0, '1'), BAD);
    }

    static void promise13_aCordThatThereIsNotIsBad(Edges is) {
        refused(is, x -> x.dye(5, 1), BAD);
        refused(is, x -> x.dye(-1, 1), BAD);
        refused(is, x -> x.dye(LEAST, 1), BAD);
        refused(is, x -> x.dye(MOST, 1), BAD);
        is.due(SMALL, x -> x.dye(4, 0), 6);
    }

    static void promise13_thatCordAlone(Edges is) {
        for (int c = 0; c < 16; c++) {
            ToldInKnots x = Texts.laid("[" + Texts.repeated("1e", 16) + "]");
            x.dye(c, 7);
            for (int d = 0; d < 16; d++) {
                is.due("COLOUR of " + d, x.cord(d, 0), d == c ? 7 : 1);
            }
        }
    }

    static void promise13_answersTheColourUntilThen(Edges is) {
        ToldInKnots x = Texts.laid("[0e]");
        is.due("from 0", x.dye(0, 9), 0);
        is.due("from 9", x.dye(0, 9), 9);
        is.due("from 9 again", x.dye(0, 0), 9);
        is.due("count(5)", x.count(5), 3);
    }

    static void promise13_whatHangsFromItIsNotDyed(Edges is) {
        ToldInKnots x = Texts.laid("[1e(2e(3e))^4e]");
        x.dye(0, 9);
        for (int c = 1; c < 4; c++) {
            is.due("COLOUR of " + c, x.cord(c, 0), c + 1);
        }
    }

    // 14: hang

    static void promise14_aGroupThatThereIsNotIsBad(Edges is) {
        refused(is, x -> x.hang(0, 2), BAD);
        refused(is, x -> x.hang(0, -1), BAD);
        refused(is, x -> x.hang(0, LEAST), BAD);
        refused(is, x -> x.hang(0, MOST), BAD);
        String five = "[1e2e]" + Texts.repeated("[1e]", 4);
        is.due(five, x -> x.hang(0, 4), 2);
        is.due(five, x -> x.hang(0, 5), BAD);
    }

    static void promise14_aCordThatThereIsNotIsBad(Edges is) {
        refused(is, x -> x.hang(5, 0), BAD);
        refused(is, x -> x.hang(-1, 1), BAD);
        refused(is, x -> x.hang(LEAST, 0), BAD);
        refused(is, x -> x.hang(MOST, 0), BAD);
    }

    static void promise14_badIsAheadOfNo(Edges is) {
        refused(is, x -> x.hang(3, 2), BAD);
        refused(is, x -> x.hang(1, -1), BAD);
        refused(is, x -> x.hang(4, 5), BAD);
        refused(is, x -> x.hang(5, 5), BAD);
    }

    static void promise14_noPendantIsNo(Edges is) {
        refused(is, x -> x.hang(1, 1), NO);
        refused(is, x -> x.hang(1, 0), NO);
        is.due("[1e(2e(3e))4e^5e(6e)][7e]", x -> x.hang(2, 1), NO);
        is.due("[1e(2e(3e))4e^5e(6e)][7e]", x -> x.hang(5, 1), NO);
    }

    static void promise14_aTopIsNo(Edges is) {
        refused(is, x -> x.hang(3, 1), NO);
        refused(is, x -> x.hang(3, 0), NO);
    }

    static void promise14_theLastOneIsNo(Edges is) {
        refused(is, x -> x.hang(4, 0), NO);
        is.due("[1e^2e][3e]", x -> x.hang(0, 1), NO);
        is.due("[1e(2e)^3e][3e]", x -> x.hang(0, 1), NO);
        is.due("[1e][3e]", x -> x.hang(0, 1), NO);
    }

    static void promise14_theLastButOneIsNot(Edges is) {
        ToldInKnots x = Texts.laid("[1e2e3e][4e]");
        is.due("the first of three", x.hang(0, 1), 2);
        is.due("the second of three", x.hang(1, 1), 3);
        is.due("the last of three", x.hang(2, 1), NO);
        is.due("one is left", x.group(0, 0), 1);
        is.due("one comes back", x.hang(3, 0), 2);
        is.due("then it can be", x.hang(2, 1), 3);
    }

    static void promise14_theSameGroupIsNo(Edges is) {
        refused(is, x -> x.hang(0, 0), NO);
        refused(is, x -> x.hang(2, 0), NO);
        refused(is, x -> x.hang(4, 1), NO);
        ToldInKnots x = Texts.laid("[1e2e3e][4e]");
        x.hang(0, 1);
        is.due("it is there already", x.hang(0, 1), NO);
        is.due("count(5)", x.count(5), 1);
    }

    static void promise14_aGroupTakesAllTheOthersLeave(Edges is) {
        ToldInKnots x = Texts.laid("[1e][" + Texts.repeated("2e", 15) + "]");
        for (int c = 1; c <= 14; c++) {
            is.due("hang(" + c + ", 0)", x.hang(c, 0), c + 1);
        }
        is.due("the last", x.hang(15, 0), NO);
        for (int k = 0; k <= 14; k++) {
            is.due("PENDANT " + k, x.pendant(0, k), k);
        }
        is.due("no more", x.pendant(0, 15), NONE);
        is.due("the one that is left", x.pendant(1, 0), 15);
    }

    static void promise14_behindItsPendantsNotBehindTheTop(Edges is) {
        ToldInKnots x = Texts.laid("[1e2e^3e][4e5e^6e]");
        is.due("hang(3, 0)", x.hang(3, 0), 3);
        is.due("PENDANT 2", x.pendant(0, 2), 3);
        is.due("hang(0, 1)", x.hang(0, 1), 2);
        is.due("PENDANT 1", x.pendant(1, 1), 0);
        is.due("the TOP of 0", x.group(0, 1), 2);
        is.due("the TOP of 1", x.group(1, 1), 5);
    }

    static void promise14_whatHangsFromItComesAlong(Edges is) {
        ToldInKnots x = Texts.laid("[1e(2e(3e)4e)5e^6e][7e]");
        is.due("hang(0, 1)", x.hang(0, 1), 2);
        int[] groups = {1, 1, 1, 1, 0, 0, 1};
        int[] holders = {NONE, 0, 1, 0, NONE, NONE, NONE};
        for (int c = 0; c < 7; c++) {
            is.due("GROUP of " + c, x.cord(c, 3), groups[c]);
            is.due("from which " + c + " hangs", x.cord(c, 2), holders[c]);
        }
        is.due("SUM there", x.group(1, 2), 5);
        is.due("SUM where it was", x.group(0, 2), 1);
    }

    // 15: undo

    static void promise15_nothingIsNo(Edges is) {
        is.refused(x -> { x.keep(); x.write('['); }, ToldInKnots::undo, NO);
        is.refused(x -> { x.dye(0, 3); x.undo(); }, ToldInKnots::undo, NO);
    }

    static void promise15_eachOfTheFiveCanBeUndone(Edges is) {
        undoneLike(is, x -> x.tie(0, 77));
        undoneLike(is, x -> x.more(0, 1));
        undoneLike(is, x -> x.knot(1, 0, 0, 0));
        undoneLike(is, x -> x.dye(4, 0));
        undoneLike(is, x -> x.hang(0, 1));
        undoneLike(is, x -> x.hang(2, 1));
    }

    /** Behind a change that is UNDONE nothing has changed. */
    private static void undoneLike(Edges is, Edges.Call change) {
        is.due("changed", Math.min(change.on(Texts.laid(SMALL)), 0), 0);
        is.unchanged(ChangeEdgesTest::small, x -> {
            change.on(x);
            return x.undo();
        });
    }

    static void promise15_theLast8CanBe(Edges is) {
        for (int changes = 1; changes <= 8; changes++) {
            ToldInKnots x = Texts.laid("[9e]");
            for (int i = 0; i < changes; i++) {
                x.dye(0, i);
                is.due("count(5)", x.count(5), i + 1);
            }
            for (int left = changes - 1; left >= 0; left--) {
                is.due("undo", x.undo(), left);
                is.due("COLOUR", x.cord(0, 0), left == 0 ? 9 : left - 1);
            }
            is.due("no more", x.undo(), NO);
        }
    }

    static void promise15_theNinthCanNotBe(Edges is) {
        for (int changes = 9; changes <= 17; changes++) {
            ToldInKnots x = Texts.laid("[1....]");
            for (int i = 1; i <= changes; i++) {
                x.tie(0, i);
            }
            is.due("count(5)", x.count(5), 8);
            for (int left = 7; left >= 0; left--) {
                is.due("undo", x.undo(), left);
                is.due("VALUE", x.cord(0, VALUE), changes - 8 + left);
            }
            is.due("no more", x.undo(), NO);
            is.due("as it was 8 ago", x.cord(0, VALUE), changes - 8);
        }
    }

    static void promise15_aRefusedChangeIsNone(Edges is) {
        ToldInKnots x = Texts.laid(SMALL);
        x.dye(0, 5);
        x.tie(0, -1);
        x.tie(0, 100);
        x.more(1, 1);
        x.more(0, 10000);
        x.knot(0, 0, 0, 1);
        x.dye(0, 10);
        x.hang(3, 1);
        x.hang(0, 7);
        is.due("count(5)", x.count(5), 1);
        is.due("undo", x.undo(), 0);
        is.due("COLOUR", x.cord(0, 0), 1);
    }

    static void promise15_whatIsUndoneComesNotAgain(Edges is) {
        ToldInKnots x = Texts.laid(SMALL);
        x.dye(0, 5);
        x.dye(0, 6);
        x.undo();
        x.dye(0, 7);
        is.due("undo", x.undo(), 1);
        is.due("COLOUR", x.cord(0, 0), 5);
        is.due("undo again", x.undo(), 0);
        is.due("COLOUR at first", x.cord(0, 0), 1);
    }

    static void promise15_textAndKeptStay(Edges is) {
        ToldInKnots x = Texts.laid(SMALL);
        x.dye(0, 5);
        x.keep();
        x.wipe();
        x.write('[');
        is.due("undo", x.undo(), 0);
        is.due("letters", x.count(7), 1);
        is.due("KEPT", x.count(6), 1);
        is.due("back", x.back(), 0);
        is.due("as KEPT", x.cord(0, 0), 5);
    }

    static void promise15_askingIsNoChange(Edges is) {
        is.unchanged(ChangeEdgesTest::small, ChangeEdgesTest::askAll);
    }

    private static int askAll(ToldInKnots x) {
        for (int i = -1; i <= 5; i++) {
            x.cord(i, 8);
            x.cluster(i, 0);
            x.group(i, 2);
            x.pendant(i, 0);
            x.wrong(i);
            x.mend(i);
            x.slip(i, 1);
            x.lost(i);
            x.closed(i, 3, 1);
            x.order(i);
            x.share(i, 0);
            x.make(i);
            x.colours(i, 0);
            x.path(i, i);
            x.same(i, 0);
            x.year(i, 0);
        }
        return x.fault();
    }
}
