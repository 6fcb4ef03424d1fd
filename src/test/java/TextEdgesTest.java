/** Boundary cases of promises 1 to 5: what is told in a text. */
public final class TextEdgesTest {
    private static final int BAD = Edges.BAD, NO = Edges.NO, FULL = Edges.FULL, NONE = Edges.NONE;
    /** A cord of four clusters, nine letters of a text. */
    private static final String LONGEST = "1s9s9s9l9";

    private TextEdgesTest() {
    }

    public static void main(String[] args) throws IllegalAccessException {
        Edges.run(TextEdgesTest.class, 1, 5);
    }

    private static String cords(int many) {
        return Texts.repeated("1.", many);
    }

    private static void fill(ToldInKnots x, int letters) {
        for (int i = 0; i < letters; i++) {
            x.write('[');
        }
    }

    /** One change, one kept, a text begun. */
    private static void busy(ToldInKnots x) {
        x.dye(0, 9);
        x.keep();
        Texts.write(x, "[1e");
    }

    // 1: a new object

    static void promise01_atFirstTheToldTextIsLaid(Edges is) {
        ToldInKnots x = new ToldInKnots();
        ToldInKnots told = Texts.laid(Texts.FIRST);
        for (int what = 0; what <= 6; what++) {
            is.due("count(" + what + ")", x.count(what), told.count(what));
        }
        for (int c = 0; c <= 7; c++) {
            for (int what = 0; what <= 11; what++) {
                is.due("cord(" + c + ", " + what + ")", x.cord(c, what), told.cord(c, what));
            }
            for (int k = 0; k <= 3; k++) {
                is.due("cluster(" + c + ", " + k + ")", x.cluster(c, k), told.cluster(c, k));
            }
        }
        int[][] codes = {{23, 0, 12}, {31}, {31, 11}, {24, 0, 13}, {25}, {22}, {0}};
        for (int c = 0; c < codes.length; c++) {
            for (int k = 0; k < codes[c].length; k++) {
                is.due("told cluster(" + c + ", " + k + ")", x.cluster(c, k), codes[c][k]);
            }
            is.due("no further cluster of " + c, x.cluster(c, codes[c].length), BAD);
        }
    }

    static void promise01_atFirstTheTextIsEmpty(Edges is) {
        is.due("letters", new ToldInKnots().count(7), 0);
        is.due("wipe", new ToldInKnots().wipe(), 0);
        is.due("fault", new ToldInKnots().fault(), NONE);
        is.due("lay", new ToldInKnots().lay(), NO);
    }

    static void promise01_atFirstNothingCanBeUndone(Edges is) {
        is.due("count(5)", new ToldInKnots().count(5), 0);
        is.due("undo", new ToldInKnots().undo(), NO);
    }

    static void promise01_atFirstNothingIsKept(Edges is) {
        is.due("count(6)", new ToldInKnots().count(6), 0);
        is.due("back", new ToldInKnots().back(), NO);
    }

    static void promise01_eachObjectIsOnItsOwn(Edges is) {
        ToldInKnots x = new ToldInKnots();
        ToldInKnots y = new ToldInKnots();
        x.write('[');
        x.tie(0, 1);
        x.keep();
        is.due("letters", y.count(7), 0);
        is.due("VALUE", y.cord(0, 7), 203);
        is.due("UNDONE", y.count(5), 0);
        is.due("KEPT", y.count(6), 0);
    }

    // 2: write

    static void promise02_letters32To126Come(Edges is) {
        ToldInKnots x = new ToldInKnots();
        for (int letter = 32; letter <= 126; letter++) {
            is.due("write(" + letter + ")", x.write(letter), letter - 31);
        }
    }

    static void promise02_letter31IsBad(Edges is) {
        is.refused(TextEdgesTest::busy, x -> x.write(31), BAD);
    }

    static void promise02_letter127IsBad(Edges is) {
        is.refused(TextEdgesTest::busy, x -> x.write(127), BAD);
    }

    static void promise02_noOtherNumberIsALetter(Edges is) {
        int[] bad = {0, -1, 10, 128, 256 + '[', 65536 + '[', -65536 + '[', '[' - 256, Edges.LEAST, Edges.MOST};
        for (int letter : bad) {
            is.refused(TextEdgesTest::busy, x -> x.write(letter), BAD);
        }
    }

    static void promise02_letter200IsTheLast(Edges is) {
        ToldInKnots x = new ToldInKnots();
        for (int i = 1; i <= 200; i++) {
            is.due("letter " + i, x.write('['), i);
        }
        is.due("letter 201", x.write('['), FULL);
        is.due("letters", x.count(7), 200);
    }

    static void promise02_aFullTextStaysAsItIs(Edges is) {
        is.refused(x -> fill(x, 200), x -> x.write('['), FULL);
    }

    static void promise02_badIsAheadOfFull(Edges is) {
        is.refused(x -> fill(x, 200), x -> x.write(31), BAD);
        is.refused(x -> fill(x, 200), x -> x.write(127), BAD);
    }

    static void promise02_letter200CountsForTheFault(Edges is) {
        ToldInKnots x = new ToldInKnots();
        Texts.write(x, "[" + Texts.repeated(LONGEST, 16) + "]");
        is.due("whole, 146 letters", x.fault(), NONE);
        is.due("146 letters", x.count(7), 146);
        fill(x, 54);
        is.due("200 letters, a second GROUP without CORDS", x.fault(), 147);
    }

    // 3: wipe

    static void promise03_anEmptyTextWasOf0Letters(Edges is) {
        is.unchanged(x -> x.dye(0, 9), ToldInKnots::wipe);
        is.due("wipe", new ToldInKnots().wipe(), 0);
    }

    static void promise03_aFullTextWasOf200Letters(Edges is) {
        ToldInKnots x = new ToldInKnots();
        fill(x, 200);
        is.due("wipe", x.wipe(), 200);
        is.due("letters", x.count(7), 0);
        is.due("wiped already", x.wipe(), 0);
        is.due("letters come again", x.write('['), 1);
    }

    static void promise03_oneLetterWasOne(Edges is) {
        ToldInKnots x = new ToldInKnots();
        x.write('x');
        is.due("wipe", x.wipe(), 1);
        is.due("fault", x.fault(), NONE);
    }

    static void promise03_nothingOfTheOldTextComesBack(Edges is) {
        ToldInKnots x = new ToldInKnots();
        Texts.write(x, "[1e]");
        x.wipe();
        x.write('[');
        is.due("fault", x.fault(), 1);
        is.due("lay", x.lay(), NO);
    }

    static void promise03_whatIsLaidUndoneAndKeptStays(Edges is) {
        ToldInKnots x = new ToldInKnots();
        busy(x);
        is.due("wipe", x.wipe(), 3);
        is.due("CORDS", x.count(0), 7);
        is.due("UNDONE", x.count(5), 1);
        is.due("KEPT", x.count(6), 1);
    }

    // 4: fault

    static void promise04_anEmptyTextHasNone(Edges is) {
        is.fault("", NONE);
    }

    static void promise04_aLookChangesNothing(Edges is) {
        is.unchanged(TextEdgesTest::busy, ToldInKnots::fault);
        is.unchanged(x -> Texts.write(x, "[1e]x"), ToldInKnots::fault);
        is.unchanged(x -> Texts.write(x, "[1e]"), ToldInKnots::fault);
    }

    static void promise04_aGroupBeginsWithABracket(Edges is) {
        for (char letter = 32; letter <= 126; letter++) {
            is.fault("" + letter, letter == '[' ? 1 : 0);
            is.fault("[1e]" + letter, letter == '[' ? 5 : 4);
        }
    }

    static void promise04_fiveGroupsAtMost(Edges is) {
        is.fault(Texts.repeated("[1e]", 5), NONE);
        is.fault(Texts.repeated("[1e]", 6), 20);
        is.fault(Texts.repeated("[1e]", 5) + "[", 20);
        is.fault(Texts.repeated("[1e^2.]", 5) + "[1e^2.]", 35);
    }

    static void promise04_oneCordAtLeastInAGroup(Edges is) {
        is.fault("[]", 1);
        is.fault("[1e][]", 5);
        is.fault("[^1e]", 1);
        is.fault("[(1e)]", 1);
        is.fault("[1e]", NONE);
    }

    static void promise04_oneCordAtLeastInATop(Edges is) {
        is.fault("[1e^]", 4);
        is.fault("[1e^^2e]", 4);
        is.fault("[1e^(2e)]", 4);
        is.fault("[1e^2e]", NONE);
    }

    static void promise04_oneTopAtMost(Edges is) {
        is.fault("[1e^2e3e]", 6);
        is.fault("[1e^2e^3e]", 6);
        is.fault("[1e^2....3e]", 9);
        is.fault("[1e^2e(4e)3e]", 10);
        is.fault("[1e^2e(4e)^3e]", 10);
        is.fault("[1e^2e][1e^2e]", NONE);
    }

    static void promise04_aTopHangsFromTheGroupAlone(Edges is) {
        is.fault("[1e(2e^3e)]", 6);
        is.fault("[1e(2e(3e^4e))]", 9);
        is.fault("[1e(2e)^3e]", NONE);
        is.fault("[1e^3e(2e^4e)]", 9);
    }

    static void promise04_oneCordAtLeastHangsBetweenBrackets(Edges is) {
        is.fault("[1e()]", 4);
        is.fault("[1e(2e())]", 7);
        is.fault("[1e(2e)]", NONE);
        is.fault("[1e(2e3e4e)]", NONE);
    }

    static void promise04_bracketsOnceToACord(Edges is) {
        is.fault("[1e(2e)(3e)]", 7);
        is.fault("[1e(2e)e]", 7);
        is.fault("[1e(2e).]", 7);
    }

    static void promise04_everyBracketIsClosedOnce(Edges is) {
        is.fault("[1e)]", 3);
        is.fault("[1e(2e))]", 7);
        is.fault("[1e(2e]", 6);
        is.fault("[1e(2e(3e)]", 10);
        is.fault("[1e]]", 4);
        is.fault("[1e(2e)]]", 8);
    }

    static void promise04_aColourIsAFigure(Edges is) {
        for (char letter = 32; letter <= 126; letter++) {
            boolean figure = letter >= '0' && letter <= '9';
            is.fault("[" + letter + "e]", figure ? NONE : 1);
            is.fault("[1e(" + letter + "e)]", figure ? NONE : 4);
            is.fault("[1e^" + letter + "e]", figure ? NONE : 4);
        }
    }

    static void promise04_oneClusterAtLeast(Edges is) {
        is.fault("[1]", 2);
        is.fault("[12e]", 2);
        is.fault("[1(2e)]", 2);
        is.fault("[1^2e]", 2);
        is.fault("[1e(2)]", 5);
        is.fault("[1.]", NONE);
    }

    static void promise04_fourClustersAtMost(Edges is) {
        is.fault("[1....]", NONE);
        is.fault("[1.....]", 6);
        is.fault("[1eeee]", NONE);
        is.fault("[1eeeee]", 6);
        is.fault("[1s1s2s3s4]", NONE);
        is.fault("[1s1s2s3s4s5]", 10);
        is.fault("[1l2l2l3l4]", NONE);
        is.fault("[1l2l2l3l4l5]", 10);
        is.fault("[1s1l2.ee]", 8);
        is.fault("[1e(2.....)]", 9);
        is.fault("[1e^2.....]", 9);
    }

    static void promise04_aClusterIsOneOfFour(Edges is) {
        for (char letter = 32; letter <= 126; letter++) {
            boolean begins = ".sle".indexOf(letter) >= 0;
            boolean whole = letter == '.' || letter == 'e';
            is.fault("[1" + letter, begins ? 3 : 2);
            is.fault("[1" + letter + "]", !begins ? 2 : whole ? NONE : 3);
        }
    }

    static void promise04_singleKnotsAre1To9(Edges is) {
        for (char letter = 32; letter <= 126; letter++) {
            is.fault("[1s" + letter + "]", letter >= '1' && letter <= '9' ? NONE : 3);
        }
    }

    static void promise04_turnsOfALongKnotAre2To9(Edges is) {
        for (char letter = 32; letter <= 126; letter++) {
            is.fault("[1l" + letter + "]", letter >= '2' && letter <= '9' ? NONE : 3);
        }
    }

    static void promise04_nothingHangsFromDepth2(Edges is) {
        is.fault("[1.(2.(3.))]", NONE);
        is.fault("[1.(2.(3.(4.)))]", 9);
        is.fault("[1.(2.(3.(", 9);
        is.fault("[1.(2.(3.4.(", 11);
        is.fault("[1.(2.(3.)4.(5.(", 15);
        is.fault("[1.^2.(3.(4.))]", NONE);
        is.fault("[1.^2.(3.(4.(5.)))]", 12);
    }

    static void promise04_depthsBeginAgainBehindACord(Edges is) {
        is.fault("[1.(2.(3.))4.(5.(6.))]", NONE);
        is.fault("[1.(2.(3.)4.(5.))]", NONE);
        is.fault("[1.(2.(3.))][4.(5.(6.))]", NONE);
        is.fault("[1.(2.(3.))][4.(5.(6.(", 21);
    }

    static void promise04_sixteenCordsAtMost(Edges is) {
        is.fault("[" + cords(16) + "]", NONE);
        is.fault("[" + cords(17) + "]", 33);
        is.fault("[" + cords(16) + "9", 33);
    }

    static void promise04_a17thCordAsATop(Edges is) {
        is.fault("[" + cords(15) + "^1.]", NONE);
        is.fault("[" + cords(16) + "^", 34);
        is.fault("[" + cords(16) + "^1.]", 34);
    }

    static void promise04_a17thCordThatHangs(Edges is) {
        is.fault("[" + cords(15) + "(1.)]", NONE);
        is.fault("[" + cords(16) + "(", 34);
        is.fault("[" + cords(16) + "(1.)]", 34);
        is.fault("[1.(" + cords(15) + ")]", NONE);
        is.fault("[1.(" + cords(16) + ")]", 34);
        is.fault("[1.(2.(" + cords(14) + "))]", NONE);
        is.fault("[1.(2.(" + cords(15) + "))]", 35);
    }

    static void promise04_a17thCordInAnotherGroup(Edges is) {
        is.fault("[" + cords(15) + "][1.]", NONE);
        is.fault("[" + cords(16) + "][", 35);
        is.fault("[" + cords(16) + "][1.]", 35);
        is.fault(Texts.repeated("[" + cords(4) + "]", 4) + "[1.]", 41);
    }

    static void promise04_theFirstOfSeveralFaults(Edges is) {
        is.fault("[1l1s0]]", 3);
        is.fault("x[", 0);
        is.fault(Texts.repeated("[1e]", 5) + "[x", 20);
        is.fault("[1.(2.(3.(x", 9);
        is.fault("[" + cords(16) + "1x", 33);
    }

    static void promise04_notWholeIsHowLongItIs(Edges is) {
        String[] whole = {Texts.FIRST, "[1s2.l3(4e(5.))2s1e^3s3.l4(6l2)][7.]", "[1.^2.(3.(4.)5.)]"};
        for (String text : whole) {
            for (int i = 1; i < text.length(); i++) {
                is.fault(text.substring(0, i), text.charAt(i - 1) == ']' ? NONE : i);
            }
            is.fault(text, NONE);
        }
    }

    static void promise04_eachLookIsAtTheWholeText(Edges is) {
        String text = "[1e(2e(3e)4e)^5e(6e(7e))][8.(9.)]";
        ToldInKnots x = new ToldInKnots();
        for (int i = 1; i <= text.length(); i++) {
            x.write(text.charAt(i - 1));
            is.due("behind " + i, x.fault(), text.charAt(i - 1) == ']' ? NONE : i);
            is.due("once more", x.fault(), text.charAt(i - 1) == ']' ? NONE : i);
        }
        is.due("lay", x.lay(), 9);
    }

    static void promise04_nothingStaysOfALookAtAnotherText(Edges is) {
        for (String other : new String[] {"[1e(2e(3e", "[1e^2e(", "[1e]x", "[1", "[1s", "[1l", "[1e^", "x"}) {
            ToldInKnots x = new ToldInKnots();
            Texts.write(x, other);
            x.fault();
            x.wipe();
            is.due("empty", x.fault(), NONE);
            Texts.write(x, "[1e2e^3e]");
            is.due("without FAULT", x.fault(), NONE);
            is.due("lay", x.lay(), 3);
        }
    }

    static void promise04_aFullText(Edges is) {
        ToldInKnots x = new ToldInKnots();
        fill(x, 200);
        is.due("of brackets", x.fault(), 1);
        Texts.write(x, Texts.repeated("[1e]", 50));
        is.due("of GROUPS", x.fault(), 20);
    }

    // 5: lay

    static void promise05_anEmptyTextIsNotLaid(Edges is) {
        is.refused(x -> { }, ToldInKnots::lay, NO);
        is.refused(x -> { busy(x); x.wipe(); }, ToldInKnots::lay, NO);
    }

    static void promise05_aTextThatIsNotWholeIsNotLaid(Edges is) {
        is.refused(TextEdgesTest::busy, ToldInKnots::lay, NO);
        is.refused(x -> { busy(x); x.write('('); }, ToldInKnots::lay, NO);
    }

    static void promise05_aTextWithAFaultIsNotLaid(Edges is) {
        is.refused(x -> { busy(x); Texts.write(x, "[1e]]"); }, ToldInKnots::lay, NO);
        is.refused(x -> { busy(x); Texts.write(x, "x[1e]"); }, ToldInKnots::lay, NO);
        is.refused(x -> { busy(x); Texts.write(x, "[1e][2l1]"); }, ToldInKnots::lay, NO);
    }

    static void promise05_aFullTextIsNotLaid(Edges is) {
        is.refused(x -> fill(x, 200), ToldInKnots::lay, NO);
    }

    static void promise05_oneCordIsTheLeast(Edges is) {
        ToldInKnots x = new ToldInKnots();
        Texts.write(x, "[9.]");
        is.due("lay", x.lay(), 1);
        is.due("CORDS", x.count(0), 1);
        is.due("GROUPS", x.count(1), 1);
        is.due("TOPS", x.count(2), 0);
        is.due("no CORD 1", x.cord(1, 0), BAD);
    }

    static void promise05_sixteenCordsAreTheMost(Edges is) {
        ToldInKnots x = new ToldInKnots();
        Texts.write(x, "[" + Texts.repeated(LONGEST, 16) + "]");
        is.due("lay", x.lay(), 16);
        for (int c = 0; c < 16; c++) {
            is.due("VALUE of " + c, x.cord(c, 7), 9999);
        }
        Texts.write(x, "[" + cords(17) + "]");
        is.due("seventeen", x.lay(), NO);
        is.due("sixteen as they were", x.cord(15, 7), 9999);
    }

    static void promise05_fiveGroupsAreTheMost(Edges is) {
        ToldInKnots x = new ToldInKnots();
        Texts.write(x, Texts.repeated("[1e^2e]", 5));
        is.due("lay", x.lay(), 10);
        is.due("GROUPS", x.count(1), 5);
        x.write('[');
        is.due("a sixth", x.lay(), NO);
    }

    static void promise05_theLongestTextThatIsWhole(Edges is) {
        String chain = LONGEST + "(" + LONGEST + "(" + LONGEST + "))";
        String text = "[" + chain + "][" + chain + "][" + chain + "][" + chain + "][" + chain + "^" + LONGEST + "]";
        ToldInKnots x = new ToldInKnots();
        Texts.write(x, text);
        is.due("175 letters", x.count(7), 175);
        is.due("lay", x.lay(), 16);
        is.due("GROUPS", x.count(1), 5);
        is.due("its TOP", x.group(4, 1), 15);
        is.due("WHOLE of three", x.cord(12, 8), 3 * 9999);
        is.due("depth", x.cord(14, 4), 2);
    }

    static void promise05_nothingIsUndoneThen(Edges is) {
        ToldInKnots x = new ToldInKnots();
        for (int i = 0; i < 9; i++) {
            x.dye(0, i);
        }
        Texts.write(x, "[1e]");
        x.lay();
        is.due("count(5)", x.count(5), 0);
        is.due("undo", x.undo(), NO);
        is.due("COLOUR", x.cord(0, 0), 1);
    }

    static void promise05_nothingIsKeptThen(Edges is) {
        ToldInKnots x = new ToldInKnots();
        x.keep();
        x.keep();
        Texts.write(x, "[1e]");
        x.lay();
        is.due("count(6)", x.count(6), 0);
        is.due("back", x.back(), NO);
        is.due("keep", x.keep(), 1);
    }

    static void promise05_theTextStaysAndCanBeLaidAgain(Edges is) {
        ToldInKnots x = new ToldInKnots();
        Texts.write(x, "[1e2l3]");
        is.due("lay", x.lay(), 2);
        x.tie(0, 5);
        x.hang(0, 0);
        is.due("letters", x.count(7), 7);
        is.due("lay again", x.lay(), 2);
        is.due("as told", x.cord(0, 7), 1);
        Texts.write(x, "[1e2l3][4.]");
        is.due("with a GROUP more", x.lay(), 3);
        is.due("GROUPS", x.count(1), 2);
    }

    static void promise05_nothingOfWhatWasLaidStays(Edges is) {
        ToldInKnots x = Texts.laid("[1s9s9s9l9(2l2(3e))4e5e^6l3][7s1.^8s1.]");
        x.hang(3, 1);
        Texts.write(x, "[0.9e]");
        is.due("lay", x.lay(), 2);
        int[][] want = {{0, 1, NONE, 0, 0, 0, 0, 0, 0, 0, 0}, {9, 1, NONE, 0, 0, 0, 0, 1, 1, 1, 2}};
        for (int c = 0; c < 2; c++) {
            for (int what = 0; what <= 10; what++) {
                is.due("cord(" + c + ", " + what + ")", x.cord(c, what), want[c][what]);
            }
            is.due("one CLUSTER", x.cluster(c, 1), BAD);
            is.due("in its order", x.pendant(0, c), c);
        }
        is.due("no third", x.pendant(0, 2), NONE);
        is.due("no TOP", x.group(0, 1), NONE);
        is.due("no GROUP 1", x.group(1, 0), BAD);
    }
}
