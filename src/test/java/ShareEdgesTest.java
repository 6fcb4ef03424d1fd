/** Boundary cases of promises 21 to 23: order, even shares, cords that make a number together. */
public final class ShareEdgesTest {
    private static final int BAD = Edges.BAD, NONE = Edges.NONE, LEAST = Edges.LEAST, MOST = Edges.MOST;
    private static final String LONGEST = "1s9s9s9l9";

    private ShareEdgesTest() {
    }

    public static void main(String[] args) throws IllegalAccessException {
        Edges.run(ShareEdgesTest.class, 21, 23);
    }

    /** 3, 1 and 9 in GROUP 0, with a TOP of none; SINGLE 7 in GROUP 1; busy. */
    private static void small(ToldInKnots x) {
        Texts.write(x, "[1l3(2l4)3.4l9^5s1][6s7]");
        x.lay();
        x.keep();
        x.dye(0, 9);
        x.tie(2, 1);
        Texts.write(x, "[1e]");
    }

    private static void refused(Edges is, Edges.Call call, int want) {
        is.refused(ShareEdgesTest::small, call, want);
    }

    private static String told(int v) {
        String tens = v > 9 ? "s" + v / 10 : ".";
        return "1" + tens + (v % 10 == 0 ? "." : v % 10 == 1 ? "e" : "l" + v % 10);
    }

    private static String told(int first, int last) {
        StringBuilder text = new StringBuilder();
        for (int v = first; v != last; v += first < last ? 1 : -1) {
            text.append(told(v));
        }
        return text.append(told(last)).toString();
    }

    // 21: order

    private static void order(Edges is, String pendants, int want) {
        is.due("[" + pendants + "]", x -> x.order(0), want);
        is.due("[" + pendants + "^9s1]", x -> x.order(0), want);
    }

    static void promise21_oneAloneIsInOrder(Edges is) {
        order(is, "1.", 0);
        order(is, "1l9", 0);
    }

    static void promise21_thatIsAsMuchIsNotBelow(Edges is) {
        order(is, "1l21l2", 0);
        order(is, "1.1.1.", 0);
        order(is, "1l21l21e1l21l2", 1);
        order(is, "1s1.1l9", 1);
        order(is, "1l91s1.", 0);
    }

    static void promise21_fromNoneToAllButOne(Edges is) {
        is.due("[" + told(0, 14) + "]", x -> x.order(0), 0);
        is.due("[" + told(14, 0) + "]", x -> x.order(0), 14);
        is.due("[" + told(5, 20) + "]", x -> x.order(0), 0);
        is.due("[" + told(20, 5) + "]", x -> x.order(0), 15);
    }

    static void promise21_theFewest(Edges is) {
        order(is, "1l91e1l21l31l4", 1);
        order(is, "1l21l31l41l51e", 1);
        order(is, "1l31e1l41e1l51e", 3);
        order(is, "1l51l61l71e1l2", 2);
        order(is, "1l91l81e1l2", 2);
    }

    static void promise21_oneThatIsNotWellKnottedNone(Edges is) {
        order(is, "1s1", NONE);
        order(is, "1l21s3", NONE);
        order(is, "1s31l2", NONE);
        order(is, "1l21e.1l3", NONE);
        refused(is, x -> x.order(1), NONE);
    }

    static void promise21_neitherTopNorWhatHangsIsAsked(Edges is) {
        order(is, "1l2(2s1)1l3(2e(3s4))", 0);
        order(is, "1l2(2s9.)1l3", 0);
        is.due("[1l3^2e]", x -> x.order(0), 0);
        is.due("[1l3^2s1(3s1)]", x -> x.order(0), 0);
        is.due("[1l3][2s1]", x -> x.order(0), 0);
    }

    static void promise21_asTheyHangNotByTheirNumbers(Edges is) {
        ToldInKnots x = Texts.laid("[1e1l21l3][1l2]");
        x.hang(0, 1);
        is.due("1 behind 2", x.order(1), 1);
        x.hang(0, 0);
        is.due("2, 3, 1", x.order(0), 1);
        x.hang(1, 1);
        is.due("2, 2", x.order(1), 0);
        is.due("3, 1", x.order(0), 1);
    }

    static void promise21_aGroupThatThereIsNotIsBad(Edges is) {
        for (int g : new int[] {-1, 2, 5, LEAST, MOST}) {
            refused(is, x -> x.order(g), BAD);
        }
        is.due(Texts.repeated("[1l31e]", 5), x -> x.order(4), 1);
        is.due(Texts.repeated("[1l31e]", 5), x -> x.order(5), BAD);
    }

    // 22: share

    private static void share(Edges is, String text, int g, int set, int unlike) {
        is.due(text, x -> x.share(g, 0), set);
        is.due(text, x -> x.share(g, 1), unlike);
    }

    static void promise22_oneAloneIsNotInIt(Edges is) {
        share(is, "[1l9]", 0, 0, 9);
        share(is, "[1s9s9s9l9]", 0, 0, 9999);
        share(is, "[1.]", 0, 0, 0);
    }

    static void promise22_ofSeveralTheLowest(Edges is) {
        share(is, "[1l91l9]", 0, 0b01, 0);
        share(is, "[1.1l91l9]", 0, 0b010, 0);
        share(is, "[1l91.1l9]", 0, 0b001, 0);
        share(is, "[1.1.1.]", 0, 0, 0);
        share(is, "[1l21l21l21l2]", 0, 0b0011, 0);
        share(is, "[1l31l41l51l6]", 0, 0b0110, 0);
    }

    static void promise22_theLowestNotTheFewest(Edges is) {
        share(is, "[1e1l21l31l6]", 0, 0b0111, 0);
        share(is, "[1l31l4]", 0, 0b01, 1);
        share(is, "[1l41l3]", 0, 0b01, 1);
        share(is, "[1l21l31l8]", 0, 0b011, 3);
        share(is, "[1e1e1l9]", 0, 0b011, 7);
    }

    static void promise22_manyAreLessThanOne(Edges is) {
        share(is, "[" + Texts.repeated("1e", 15) + "1s1l6]", 0, 0x7FFF, 1);
        share(is, "[" + Texts.repeated("1s1.", 8) + Texts.repeated("1.", 6) + "1s9l91s2.]", 0, 1 << 14, 1);
        share(is, "[1s9l9" + Texts.repeated("1e", 15) + "]", 0, 1, 84);
    }

    private static final String MIXED = "[1l91s1e1l31s2.1l51s1l21l21s3e1l71s2l9][1l41e1s4.1l61s1l81l2]";

    /** Whatever was asked of an object, it answers as a new one does. */
    static void promise22_askedAgainBehindOthers(Edges is) {
        int[] groups = {5, 0, 1, 5, 1, 0};
        ToldInKnots x = Texts.laid(MIXED);
        for (int g : groups) {
            for (int what = 0; what <= 1; what++) {
                is.due("share(" + g + ", " + what + ")", x.share(g, what), Texts.laid(MIXED).share(g, what));
            }
            is.due("make(77)", x.make(77), Texts.laid(MIXED).make(77));
            is.due("make(300)", x.make(300), Texts.laid(MIXED).make(300));
        }
    }

    static void promise22_behindOneThatIsNotWellKnottedAnyMore(Edges is) {
        ToldInKnots x = Texts.laid("[" + Texts.repeated("1l9", 8) + "][" + Texts.repeated("1l9", 8) + "]");
        is.due("all of them", x.share(5, 0), 0xFF);
        is.due("GROUP 1", x.share(1, 0), 0x0F00);
        x.knot(8, 0, 1, 9);
        is.due("none", x.share(1, 0), NONE);
        is.due("none by how much", x.share(5, 1), NONE);
        is.due("GROUP 0", x.share(0, 0), 0x0F);
        x.tie(8, 1);
        is.due("GROUP 1 again", x.share(1, 0), 0x0700 | 0x0800);
        is.due("GROUP 1 by how much", x.share(1, 1), 8);
    }

    static void promise22_sixteen(Edges is) {
        share(is, "[" + Texts.repeated(LONGEST, 16) + "]", 0, 0xFF, 0);
        share(is, "[" + Texts.repeated("1.", 14) + "1l91l9]", 0, 1 << 14, 0);
        share(is, "[" + Texts.repeated("1.", 15) + "1l9]", 0, 0, 9);
        share(is, "[1l9" + Texts.repeated("1.", 14) + "1l9]", 0, 1, 0);
        share(is, "[" + Texts.repeated("1.", 7) + "1l91l9" + Texts.repeated("1.", 7) + "]", 0, 1 << 7, 0);
        share(is, "[" + Texts.repeated("1e", 15) + "1s1l5]", 0, 0x7FFF, 0);
    }

    static void promise22_groupsThereAreAnd5(Edges is) {
        String text = "[1l8^2e][3l5^4s3][5l2]";
        share(is, text, 0, 0, 8);
        share(is, text, 1, 0, 5);
        share(is, text, 2, 0, 2);
        share(is, text, 5, 0b0001, 1);
        for (int g : new int[] {3, 4, 6, -1, LEAST, MOST}) {
            share(is, text, g, BAD, BAD);
        }
        share(is, Texts.repeated("[1e]", 5), 4, 0, 1);
        share(is, Texts.repeated("[1e]", 5), 5, 0b00011, 1);
        share(is, Texts.repeated("[1e]", 5), 6, BAD, BAD);
        share(is, "[1e]", 5, 0, 1);
        share(is, "[1e]", 1, BAD, BAD);
    }

    static void promise22_aGroupThatThereIsNotChangesNothing(Edges is) {
        for (int g : new int[] {2, 4, 6, -1}) {
            refused(is, x -> x.share(g, 0), BAD);
        }
    }

    static void promise22_whatIs0And1(Edges is) {
        for (int what : new int[] {-1, 2, LEAST, MOST}) {
            refused(is, x -> x.share(0, what), BAD);
            refused(is, x -> x.share(5, what), BAD);
        }
    }

    static void promise22_badIsAheadOfNone(Edges is) {
        refused(is, x -> x.share(1, 2), BAD);
        refused(is, x -> x.share(1, -1), BAD);
    }

    static void promise22_oneThatIsNotWellKnottedNone(Edges is) {
        share(is, "[1s3]", 0, NONE, NONE);
        share(is, "[1l31s31l3]", 0, NONE, NONE);
        share(is, "[1l3][1s3]", 5, NONE, NONE);
        share(is, "[1s3][1l3]", 5, NONE, NONE);
        refused(is, x -> x.share(1, 0), NONE);
        refused(is, x -> x.share(5, 1), NONE);
    }

    static void promise22_anotherGroupIsNotAsked(Edges is) {
        share(is, "[1s3][1l3]", 1, 0, 3);
        share(is, "[1l3][1s3]", 0, 0, 3);
    }

    static void promise22_neitherTopNorWhatHangsIsAsked(Edges is) {
        share(is, "[1l3(2l9)3l3^4l2]", 0, 0b001, 0);
        share(is, "[1l3(2s9)3l3^4s2]", 0, 0b001, 0);
        share(is, "[1l3(2s9)^4s2][5l3^6s1]", 5, 0b001, 0);
    }

    static void promise22_oneThatWasHungIsOfItsNewGroup(Edges is) {
        ToldInKnots x = Texts.laid("[1l31l4][1l3]");
        x.hang(0, 1);
        is.due("where it is", x.share(1, 0), 0b001);
        is.due("where it is, by how much", x.share(1, 1), 0);
        is.due("where it was", x.share(0, 0), 0);
        is.due("where it was, by how much", x.share(0, 1), 4);
    }

    // 23: make

    private static void make(Edges is, String text, int v, int want) {
        is.due(text, x -> x.make(v), want);
    }

    static void promise23_0IsMadeByNone(Edges is) {
        make(is, "[1e1l2]", 0, 0);
        make(is, "[1.]", 0, 0);
        make(is, "[1s1]", 0, 0);
    }

    static void promise23_numbersFrom0To9999(Edges is) {
        make(is, "[1s9s9s9l9]", 9999, 1);
        make(is, "[1s9s9s9l81e]", 9999, 0b11);
        for (int v : new int[] {-1, 10000, LEAST, MOST}) {
            refused(is, x -> x.make(v), BAD);
        }
    }

    static void promise23_badEvenIfItCouldBeMade(Edges is) {
        make(is, "[1s9s9s9l91e]", 10000, BAD);
    }

    static void promise23_none(Edges is) {
        make(is, "[1e1l21l3]", 7, NONE);
        make(is, "[1l21l4]", 3, NONE);
        make(is, "[1.]", 1, NONE);
        make(is, "[1s1]", 1, NONE);
        refused(is, x -> x.make(9999), NONE);
    }

    static void promise23_allOfThem(Edges is) {
        make(is, "[1e1l21l3]", 6, 0b111);
        make(is, "[" + Texts.repeated("1e", 16) + "]", 16, 0xFFFF);
        make(is, "[" + Texts.repeated("1e", 16) + "]", 17, NONE);
        make(is, "[" + Texts.repeated("1e", 15) + "1s1.]", 25, 0xFFFF);
    }

    static void promise23_theFewest(Edges is) {
        make(is, "[1e1l21l3]", 3, 0b100);
        make(is, "[1e1l21l41l7]", 7, 0b1000);
        make(is, "[" + Texts.repeated("1e", 15) + "1l9]", 9, 1 << 15);
        make(is, "[" + Texts.repeated("1e", 15) + "1l9]", 10, 1 << 15 | 1);
        make(is, "[1.1l3]", 3, 0b10);
    }

    static void promise23_ofSeveralTheLowest(Edges is) {
        make(is, "[1l31l31l3]", 6, 0b011);
        make(is, "[1l21l41l31l3]", 6, 0b0011);
        make(is, "[1e1l51l21l4]", 6, 0b0011);
        make(is, "[1l51l21l41e]", 6, 0b0110);
        make(is, "[1l31.1l3]", 3, 0b001);
    }

    static void promise23_thoseNotWellKnottedAreNotIn(Edges is) {
        make(is, "[1s31l2]", 3, NONE);
        make(is, "[1s31l21e]", 3, 0b110);
        make(is, "[1e.1l2]", 10, NONE);
    }

    static void promise23_thoseNotWellKnottedTakeNothingAway(Edges is) {
        for (int v = 1; v <= 8; v++) {
            make(is, "[1s11l9]", v, NONE);
            make(is, "[1l91s1]", v, NONE);
        }
        make(is, "[1s11l9]", 9, 0b10);
    }

    static void promise23_askedAgainBehindOthers(Edges is) {
        ToldInKnots x = Texts.laid("[1l21l31l4]");
        for (int i = 0; i < 3; i++) {
            is.due("make(9)", x.make(9), 0b111);
            is.due("make(18)", x.make(18), NONE);
            is.due("make(6)", x.make(6), 0b101);
        }
        x.knot(2, 0, 1, 4);
        int[] want = {0, NONE, 1, 2, NONE, 3, NONE, NONE, NONE, NONE};
        for (int v = 0; v <= 9; v++) {
            is.due("make(" + v + ") without CORD 2", x.make(v), want[v]);
        }
        x.undo();
        x.knot(0, 0, 1, 2);
        int[] then = {0, NONE, NONE, 2, 4, NONE, NONE, 6, NONE, NONE};
        for (int v = 9; v >= 0; v--) {
            is.due("make(" + v + ") without CORD 0", x.make(v), then[v]);
        }
    }

    static void promise23_whatCouldBeMadeOnceIsForgotten(Edges is) {
        ToldInKnots x = Texts.laid("[1e1l21s1..]");
        is.due("make(100)", x.make(100), 0b100);
        x.knot(2, 2, 2, 2);
        is.due("make(100) without CORD 2", x.make(100), NONE);
        x.undo();
        is.due("make(100) again", x.make(100), 0b100);
        ToldInKnots y = Texts.laid("[" + Texts.repeated("1.", 8) + "1l21l5]");
        is.due("make(5)", y.make(5), 1 << 9);
        y.knot(9, 0, 1, 5);
        is.due("make(5) without CORD 9", y.make(5), NONE);
        is.due("make(2) without CORD 9", y.make(2), 1 << 8);
    }

    static void promise23_withoutOneOfSixteen(Edges is) {
        ToldInKnots x = Texts.laid("[" + Texts.repeated("1l9", 16) + "]");
        is.due("all", x.make(144), 0xFFFF);
        x.knot(15, 0, 1, 9);
        is.due("all but the last", x.make(135), 0x7FFF);
        is.due("not with the last", x.make(144), NONE);
        x.knot(0, 0, 1, 9);
        is.due("nor with the first", x.make(126), 0x7FFE);
        is.due("nor with one of both", x.make(135), NONE);
    }

    static void promise23_neitherTopNorWhatHangsIsIn(Edges is) {
        make(is, "[1l2(2l5)^3l7]", 7, NONE);
        make(is, "[1l2(2l5)^3l7]", 5, NONE);
        make(is, "[1l2(2s5)^3s7]", 2, 0b001);
    }

    static void promise23_ofAllGroups(Edges is) {
        make(is, "[1l2^9l9][1l3][1l4^9e]", 9, 0b01101);
        make(is, "[1l2^9l9][1l3][1l4^9e]", 7, 0b01100);
        make(is, Texts.repeated("[1e]", 5), 5, 0b11111);
    }
}
