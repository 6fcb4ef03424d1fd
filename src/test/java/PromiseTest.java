/** Promise by promise: ordinary calls, the edges that the document names, and wrong ones. */
public final class PromiseTest {
    private static final int BAD = -1, NO = -2, FULL = -3, NONE = -4;
    private static final int LEAST = Integer.MIN_VALUE, MOST = Integer.MAX_VALUE;
    private static final Checks CHECKS = new Checks();

    private PromiseTest() {
    }

    private static void due(String call, long got, long want) {
        CHECKS.due(call, got, want);
    }

    public static void main(String[] args) {
        newObject();
        write();
        wipe();
        faultOfForm();
        faultOfLimits();
        faultOfUnfinished();
        lay();
        cord();
        cluster();
        group();
        pendant();
        tie();
        more();
        knot();
        dye();
        hang();
        hangOrder();
        undo();
        wrong();
        mend();
        slip();
        lost();
        closed();
        order();
        share();
        make();
        colours();
        path();
        same();
        year();
        keep();
        back();
        count();
        CHECKS.end("PromiseTest");
    }

    private static void newObject() {
        ToldInKnots x = new ToldInKnots();
        int[] values = {203, 1, 11, 304, 5, 2, 0};
        int[] colours = {1, 4, 2, 3, 1, 2, 7};
        int[] holders = {NONE, 0, NONE, NONE, NONE, 4, 5};
        for (int c = 0; c < values.length; c++) {
            due("1: VALUE of " + c, x.cord(c, 7), values[c]);
            due("1: COLOUR of " + c, x.cord(c, 0), colours[c]);
            due("1: holder of " + c, x.cord(c, 2), holders[c]);
        }
        due("1: cords", x.count(0), 7);
        due("1: groups", x.count(1), 2);
        due("1: tops", x.count(2), 1);
        due("1: letters", x.count(7), 0);
        due("1: nothing UNDONE", x.undo(), NO);
        due("1: nothing KEPT", x.back(), NO);
        ToldInKnots other = new ToldInKnots();
        x.dye(0, 9);
        x.write('[');
        due("1: objects are apart", other.cord(0, 0), 1);
        due("1: texts are apart", other.count(7), 0);
    }

    private static void write() {
        ToldInKnots x = new ToldInKnots();
        due("2: write(32)", x.write(32), 1);
        due("2: write(126)", x.write(126), 2);
        due("2: write(31)", x.write(31), BAD);
        due("2: write(127)", x.write(127), BAD);
        due("2: write(least)", x.write(LEAST), BAD);
        due("2: write(most)", x.write(MOST), BAD);
        due("2: write(256 and 91)", x.write(256 + 91), BAD);
        due("2: nothing came", x.count(7), 2);
        for (int i = 3; i <= 200; i++) {
            due("2: letter " + i, x.write('.'), i);
        }
        due("2: letter 201", x.write('.'), FULL);
        due("2: BAD is ahead of FULL", x.write(31), BAD);
        due("2: still 200", x.count(7), 200);
    }

    private static void wipe() {
        ToldInKnots x = new ToldInKnots();
        due("3: empty", x.wipe(), 0);
        Texts.write(x, "[1e]");
        due("3: four", x.wipe(), 4);
        due("3: wiped", x.count(7), 0);
        due("3: what is LAID stays", x.count(0), 7);
        x.write('[');
        due("3: from the start again", x.fault(), 1);
        due("3: one", x.wipe(), 1);
        due("3: without FAULT", x.fault(), NONE);
    }

    private static void fault(String text, int want) {
        due("4: fault of " + text, Texts.fault(text), want);
    }

    private static void faultOfForm() {
        fault("", NONE);
        fault(Texts.FIRST, NONE);
        fault("[1e]", NONE);
        fault("[1e^2.][3.]", NONE);
        fault(" [1e]", 0);
        fault("]", 0);
        fault("[]", 1);
        fault("[^1e]", 1);
        fault("[s1]", 1);
        fault("[1]", 2);
        fault("[1(2e)]", 2);
        fault("[11e]", 2);
        fault("[1s0]", 3);
        fault("[1s1]", NONE);
        fault("[1s9]", NONE);
        fault("[1se]", 3);
        fault("[1l1]", 3);
        fault("[1l0]", 3);
        fault("[1l2]", NONE);
        fault("[1l9]", NONE);
        fault("[1S1]", 2);
        fault("[1e)]", 3);
        fault("[1e(]", 4);
        fault("[1e()]", 4);
        fault("[1e(2e)(3e)]", 7);
        fault("[1e(2e)e]", 7);
        fault("[1e(2e]]", 6);
        fault("[1e(2e^3e)]", 6);
        fault("[1e^]", 4);
        fault("[1e^2e3e]", 6);
        fault("[1e^2e^3e]", 6);
        fault("[1e^2e(3e4e)]", NONE);
        fault("[1e^2e(3e)4e]", 10);
        fault("[1e^2e(3e^4e)]", 9);
        fault("[1e^2e)]", 6);
        fault("[1e] ", 4);
        fault("[1e]1e", 4);
        fault("[1e[2e]]", 3);
        fault("[1e(2e)3e^4.]", NONE);
        fault("[1e~", 3);
        fault("[:e]", 1);
        fault("[/e]", 1);
        fault("[0e9e]", NONE);
        fault("[1s:]", 3);
        fault("[1.(2.(3.)4.(5.6.))7.^8.(9.)]", NONE);
    }

    private static void faultOfLimits() {
        fault("[1....]", NONE);
        fault("[1.....]", 6);
        fault("[1e.s1l2e]", 8);
        fault("[1s1s2s3s4s5]", 10);
        fault("[1s1s2s3s4l5]", 10);
        fault("[" + Texts.repeated("1.", 16) + "]", NONE);
        fault("[" + Texts.repeated("1.", 17) + "]", 33);
        fault("[" + Texts.repeated("1.", 16) + "^1.]", 34);
        fault("[" + Texts.repeated("1.", 16) + "(1.)]", 34);
        fault("[" + Texts.repeated("1.", 15) + "^1.(2.)]", 35);
        fault("[" + Texts.repeated("1.", 16) + "][1.]", 35);
        fault("[" + Texts.repeated("1.", 15) + "][1.]", NONE);
        fault(Texts.repeated("[1e]", 5), NONE);
        fault(Texts.repeated("[1e]", 6), 20);
        fault(Texts.repeated("[1e]", 5) + "x", 20);
        fault("[1.(2.(3.))]", NONE);
        fault("[1.(2.(3.(4.)))]", 9);
        fault("[1.^2.(3.(4.))]", NONE);
        fault("[1.^2.(3.(4.(", 12);
        fault(Texts.repeated("[", 200), 1);
        fault(Texts.repeated("[1e]", 50), 20);
    }

    private static void faultOfUnfinished() {
        String whole = "[1s2.l3(4e(5.))2s1e^3s3.l4(6l2)][7.]";
        int ended = whole.indexOf(']') + 1;
        for (int i = 1; i < whole.length(); i++) {
            fault(whole.substring(0, i), i == ended ? NONE : i);
        }
        fault(whole, NONE);
        fault("[" + Texts.repeated("1.", 16) + "(", 34);
        ToldInKnots x = new ToldInKnots();
        Texts.write(x, "[1");
        x.fault();
        due("4: goes on after a look", x.write('e'), 3);
        x.write(']');
        due("4: is whole then", x.fault(), NONE);
        due("4: what is LAID stays", x.count(0), 7);
    }

    private static void lay() {
        ToldInKnots x = new ToldInKnots();
        due("5: empty", x.lay(), NO);
        Texts.write(x, "[1e");
        x.dye(0, 5);
        x.keep();
        due("5: not whole", x.lay(), NO);
        Texts.write(x, "[1e]]");
        due("5: FAULT", x.lay(), NO);
        due("5: nothing changed", x.count(0), 7);
        due("5: can be UNDONE still", x.count(5), 1);
        due("5: KEPT still", x.count(6), 1);
        Texts.write(x, "[1s1e(2e)^3l2][4.]");
        due("5: four CORDS", x.lay(), 4);
        due("5: GROUPS", x.count(1), 2);
        due("5: nothing UNDONE", x.undo(), NO);
        due("5: nothing KEPT", x.back(), NO);
        due("5: letters stay", x.count(7), 18);
        x.dye(0, 9);
        due("5: laid again", x.lay(), 4);
        due("5: as the text tells", x.cord(0, 0), 1);
        due("5: nothing UNDONE again", x.count(5), 0);
        Texts.write(x, "[" + Texts.repeated("1s9s9s9l9", 16) + "]");
        due("5: sixteen", x.lay(), 16);
        due("5: the last of sixteen", x.cord(15, 7), 9999);
        Texts.write(x, "[1e]");
        due("5: one", x.lay(), 1);
        due("5: no second", x.cord(1, 0), BAD);
        due("5: no second GROUP", x.group(1, 0), BAD);
    }

    private static void cordIs(ToldInKnots x, int c, int... want) {
        for (int what = 0; what < want.length; what++) {
            due("6: cord(" + c + ", " + what + ")", x.cord(c, what), want[what]);
        }
    }

    private static void cord() {
        ToldInKnots x = Texts.laid("[0s1s2s3l4(1e(2.3s9.)4l2)5s5^6e.(7s1)][8l2s3]");
        cordIs(x, 0, 0, 4, NONE, 0, 0, 2, 0, 1234, 1234 + 1 + 90 + 2, NONE, 10);
        cordIs(x, 1, 1, 1, 0, 0, 1, 2, 0, 1, 91, 1, 2);
        cordIs(x, 2, 2, 1, 1, 0, 2, 0, 0, 0, 0, 0, 0);
        cordIs(x, 3, 3, 2, 1, 0, 2, 0, 0, 90, 90, NONE, 9);
        cordIs(x, 4, 4, 1, 0, 0, 1, 0, 0, 2, 2, 2, 2);
        cordIs(x, 5, 5, 1, NONE, 0, 0, 0, 0, NONE, NONE, NONE, 5);
        cordIs(x, 6, 6, 2, NONE, 0, 0, 1, 1, NONE, NONE, 1, 2);
        cordIs(x, 7, 7, 1, 6, 0, 1, 0, 0, NONE, NONE, NONE, 1);
        cordIs(x, 8, 8, 2, NONE, 1, 0, 0, 0, NONE, NONE, 32, 5);
        due("6: cord(9, 0)", x.cord(9, 0), BAD);
        due("6: cord(-1, 0)", x.cord(-1, 0), BAD);
        due("6: cord(most, 7)", x.cord(MOST, 7), BAD);
        due("6: cord(least, 8)", x.cord(LEAST, 8), BAD);
        due("6: cord(0, 11)", x.cord(0, 11), BAD);
        due("6: cord(0, -1)", x.cord(0, -1), BAD);
        ToldInKnots y = Texts.laid("[1l2(2e(3s1))4.s1.l3]");
        due("6: no WHOLE for one two below", y.cord(0, 8), NONE);
        due("6: a VALUE all the same", y.cord(0, 7), 2);
        due("6: GAPS ahead", y.cord(3, 7), 103);
        due("6: GAPS ahead, from the OTHER END", y.cord(3, 9), NONE);
        ToldInKnots z = Texts.laid("[1l4s3.s2][2es1][3e][4l2s1s1][5s1s1s1]");
        due("6: 4302 told from the OTHER END", z.cord(0, 9), 2034);
        due("6: EIGHT at the tens is not WELL KNOTTED", z.cord(1, 7), NONE);
        due("6: 11 from the OTHER END", z.cord(1, 9), 11);
        due("6: LONG at the hundreds", z.cord(3, 7), NONE);
        due("6: 112 from the OTHER END", z.cord(3, 9), 112);
        due("6: SINGLE ones are not WELL KNOTTED", z.cord(4, 7), NONE);
        due("6: from neither end", z.cord(4, 9), NONE);
    }

    private static void cluster() {
        ToldInKnots x = Texts.laid("[1s9.el2(2l9)]");
        due("7: the ones", x.cluster(0, 0), 22);
        due("7: tens", x.cluster(0, 1), 31);
        due("7: hundreds", x.cluster(0, 2), 0);
        due("7: thousands", x.cluster(0, 3), 19);
        due("7: on the one below", x.cluster(1, 0), 29);
        due("7: too many", x.cluster(0, 4), BAD);
        due("7: it has one alone", x.cluster(1, 1), BAD);
        due("7: k below 0", x.cluster(1, -1), BAD);
        due("7: no CORD", x.cluster(2, 0), BAD);
        due("7: CORD below 0", x.cluster(-1, 4), BAD);
        due("7: most", x.cluster(MOST, MOST), BAD);
        due("7: least", x.cluster(0, LEAST), BAD);
    }

    private static void groupIs(ToldInKnots x, int g, int... want) {
        for (int what = 0; what < want.length; what++) {
            due("8: group(" + g + ", " + what + ")", x.group(g, what), want[what]);
        }
    }

    private static void group() {
        ToldInKnots x = Texts.laid("[1l3(2l4)3e^4l8][5l3^6l2][7l2][8s1^9s1][1l5^2l4(3e)]");
        groupIs(x, 0, 2, 3, 8, 1);
        groupIs(x, 1, 1, 5, 3, 0);
        groupIs(x, 2, 1, NONE, 2, 0);
        groupIs(x, 3, 1, 8, NONE, 0);
        groupIs(x, 4, 1, 10, 5, 1);
        due("8: no GROUP", x.group(5, 0), BAD);
        due("8: below 0", x.group(-1, 0), BAD);
        due("8: what = 4", x.group(0, 4), BAD);
        due("8: what = -1", x.group(0, -1), BAD);
        due("8: most", x.group(MOST, LEAST), BAD);
        ToldInKnots y = Texts.laid("[1l3(2s4)^4l8][1l3^4l3(1e.)]");
        due("8: no SUM for what hangs from a PENDANT", y.group(0, 2), NONE);
        due("8: not RIGHT without SUM", y.group(0, 3), 0);
        due("8: SUM", y.group(1, 2), 3);
        due("8: not RIGHT without a WHOLE of the TOP", y.group(1, 3), 0);
    }

    private static void pendant() {
        ToldInKnots x = Texts.laid("[1l3(2l4)3e^4l8][5l3]");
        due("9: the first", x.pendant(0, 0), 0);
        due("9: the second", x.pendant(0, 1), 2);
        due("9: the TOP is none", x.pendant(0, 2), NONE);
        due("9: the other GROUP", x.pendant(1, 0), 4);
        due("9: no more", x.pendant(1, 1), NONE);
        due("9: most", x.pendant(1, MOST), NONE);
        due("9: k below 0", x.pendant(1, -1), BAD);
        due("9: no GROUP", x.pendant(2, 0), BAD);
        due("9: GROUP below 0", x.pendant(-1, 0), BAD);
        due("9: least", x.pendant(0, LEAST), BAD);
    }

    private static void tie() {
        ToldInKnots x = Texts.laid("[1s2.l3(4s5)2s1e^3s3.l4]");
        due("10: 203 to 213", x.tie(0, 213), 1);
        due("10: tens", x.cluster(0, 1), 11);
        due("10: to 1", x.tie(0, 1), 2 + 1 + 3 + 2);
        due("10: ones are an EIGHT", x.cluster(0, 0), 31);
        due("10: to 0", x.tie(0, 0), 2);
        due("10: a GAP", x.cluster(0, 0), 0);
        due("10: to 999", x.tie(0, 999), 27);
        due("10: ones are LONG", x.cluster(0, 0), 29);
        due("10: hundreds are SINGLE", x.cluster(0, 2), 19);
        due("10: to 1000", x.tie(0, 1000), NO);
        due("10: as it is", x.tie(0, 999), 0);
        due("10: what hangs: SINGLE 5 becomes LONG 5", x.tie(1, 5), 10);
        due("10: it is WELL KNOTTED then", x.cord(1, 7), 5);
        due("10: a TOP", x.tie(3, 305), 4 + 5);
        due("10: below 0", x.tie(0, -1), BAD);
        due("10: least", x.tie(0, LEAST), BAD);
        due("10: most", x.tie(0, MOST), NO);
        due("10: no CORD", x.tie(4, 1), BAD);
        due("10: CORD below 0", x.tie(-1, 1), BAD);
        due("10: BAD is ahead of NO", x.tie(4, MOST), BAD);
        due("10: nothing changed", x.cord(0, 7), 999);
        due("10: all that was TIED can be UNDONE", x.count(5), 7);
        ToldInKnots y = Texts.laid("[1....]");
        due("10: four CLUSTERS", y.tie(0, 9999), 36);
        due("10: no fifth", y.tie(0, 10000), NO);
    }

    private static void more() {
        ToldInKnots x = Texts.laid("[1s2.l3(4e)2s1^3s3.l4]");
        due("11: 203 and 97", x.more(0, 97), 300);
        due("11: tells so", x.cord(0, 7), 300);
        due("11: as it is", x.more(0, 0), 300);
        due("11: to 0", x.more(0, -300), 0);
        due("11: below 0", x.more(0, -1), NO);
        due("11: to 999", x.more(0, 999), 999);
        due("11: too much", x.more(0, 1), NO);
        due("11: what hangs", x.more(1, 8), 9);
        due("11: too much for one CLUSTER", x.more(1, 1), NO);
        due("11: not WELL KNOTTED", x.more(2, 1), NO);
        due("11: not WELL KNOTTED, by 0", x.more(2, 0), NO);
        due("11: not WELL KNOTTED, by 9", x.more(2, 9), NO);
        due("11: a TOP", x.more(3, -4), 300);
        due("11: 9999", x.more(0, 9999), NO);
        due("11: 10000", x.more(0, 10000), BAD);
        due("11: -9999", x.more(0, -9999), NO);
        due("11: -10000", x.more(0, -10000), BAD);
        due("11: most", x.more(0, MOST), BAD);
        due("11: least", x.more(0, LEAST), BAD);
        due("11: no CORD", x.more(4, 1), BAD);
        due("11: BAD is ahead of NO", x.more(2, 10000), BAD);
        due("11: six that can be UNDONE", x.count(5), 6);
        ToldInKnots y = Texts.laid("[1....]");
        due("11: 0 and 9999", y.more(0, 9999), 9999);
        due("11: 9999 less 9999", y.more(0, -9999), 0);
    }

    private static void knot() {
        ToldInKnots x = Texts.laid("[1s2.l3(4e)]");
        due("12: LONG to EIGHT", x.knot(0, 0, 3, 1), 4);
        due("12: GAP to SINGLE", x.knot(0, 1, 1, 9), 13);
        due("12: SINGLE to GAP", x.knot(0, 2, 0, 0), 11);
        due("12: to LONG", x.knot(0, 2, 2, 2), 13);
        due("12: is so", x.cluster(0, 2), 22);
        due("12: not WELL KNOTTED", x.cord(0, 7), NONE);
        due("12: LONG 9 on the one below", x.knot(1, 0, 2, 9), 9);
        due("12: SINGLE 1", x.knot(1, 0, 1, 1), 1);
        due("12: the same again", x.knot(1, 0, 1, 1), 1);
        due("12: counts as one that can be UNDONE", x.count(5), 7);
        int[][] bad = {{0, 0, 0, 1}, {0, 0, 0, -1}, {0, 0, 1, 0}, {0, 0, 1, 10}, {0, 0, 2, 1}, {0, 0, 2, 10},
            {0, 0, 3, 0}, {0, 0, 3, 2}, {0, 0, 4, 1}, {0, 0, -1, 0}, {0, 3, 1, 1}, {0, -1, 1, 1}, {1, 1, 1, 1},
            {2, 0, 1, 1}, {-1, 0, 1, 1}, {MOST, MOST, MOST, MOST}, {LEAST, LEAST, LEAST, LEAST}};
        for (int[] one : bad) {
            due("12: BAD " + java.util.Arrays.toString(one), x.knot(one[0], one[1], one[2], one[3]), BAD);
        }
        due("12: nothing changed", x.count(5), 7);
    }

    private static void dye() {
        ToldInKnots x = Texts.laid("[1s2.l3(4e)^2e]");
        due("13: until then", x.dye(0, 9), 1);
        due("13: until then 9", x.dye(0, 0), 9);
        due("13: is so", x.cord(0, 0), 0);
        due("13: what hangs is as it was", x.cord(1, 0), 4);
        due("13: what hangs", x.dye(1, 4), 4);
        due("13: a TOP", x.dye(2, 3), 2);
        due("13: 10", x.dye(0, 10), BAD);
        due("13: -1", x.dye(0, -1), BAD);
        due("13: no CORD", x.dye(3, 1), BAD);
        due("13: below 0", x.dye(-1, 1), BAD);
        due("13: four that can be UNDONE", x.count(5), 4);
    }

    private static void hang() {
        ToldInKnots x = Texts.laid("[1l2(2l3(3e))4l4^5l9][6l5^7e(8e)][9e]");
        due("14: to the end of GROUP 1", x.hang(0, 1), 2);
        due("14: it is behind", x.pendant(1, 1), 0);
        due("14: its GROUP", x.cord(0, 3), 1);
        due("14: GROUP of what hangs", x.cord(1, 3), 1);
        due("14: GROUP of what hangs below that", x.cord(2, 3), 1);
        due("14: it hangs there still", x.cord(2, 2), 1);
        due("14: SUM there", x.group(1, 2), 5 + 2 + 3 + 1);
        due("14: SUM where it was", x.group(0, 2), 4);
        due("14: the last one", x.hang(3, 1), NO);
        due("14: the last one of a GROUP without TOP", x.hang(8, 0), NO);
        due("14: the same GROUP", x.hang(0, 1), NO);
        due("14: a TOP", x.hang(4, 1), NO);
        due("14: no PENDANT", x.hang(1, 0), NO);
        due("14: hangs from a TOP", x.hang(7, 0), NO);
        due("14: no GROUP", x.hang(0, 3), BAD);
        due("14: GROUP below 0", x.hang(0, -1), BAD);
        due("14: no CORD", x.hang(9, 0), BAD);
        due("14: CORD below 0", x.hang(-1, 0), BAD);
        due("14: BAD is ahead of NO", x.hang(4, 5), BAD);
        due("14: one that can be UNDONE", x.count(5), 1);
        due("14: the number stays", x.cord(0, 7), 2);
    }

    private static void hangOrder() {
        ToldInKnots x = Texts.laid("[0e1e2e^3l9][4e5e][6e]");
        due("14: 1 to GROUP 1", x.hang(1, 1), 3);
        due("14: 4 to GROUP 0", x.hang(4, 0), 3);
        due("14: 1 back", x.hang(1, 0), 4);
        int[] order = {0, 2, 4, 1};
        for (int k = 0; k < order.length; k++) {
            due("14: GROUP 0, PENDANT " + k, x.pendant(0, k), order[k]);
        }
        due("14: GROUP 1 has 5", x.pendant(1, 0), 5);
        due("14: and no other", x.pendant(1, 1), NONE);
        due("14: to GROUP 2", x.hang(0, 2), 2);
        x.undo();
        due("14: UNDONE, it is the first again", x.pendant(0, 0), 0);
        x.undo();
        x.undo();
        due("14: UNDONE, 4 is the first of GROUP 1", x.pendant(1, 0), 4);
        due("14: UNDONE, 1 is the last of GROUP 1", x.pendant(1, 2), 1);
        x.undo();
        due("14: UNDONE, 1 is between 0 and 2", x.pendant(0, 1), 1);
    }

    private static void undo() {
        ToldInKnots x = Texts.laid("[1s2.l3(4e)2s1e][5.]");
        due("15: nothing yet", x.undo(), NO);
        x.tie(0, 500);
        x.more(0, 5);
        x.knot(0, 1, 1, 7);
        x.dye(1, 8);
        x.hang(0, 1);
        due("15: five", x.count(5), 5);
        due("15: HUNG", x.undo(), 4);
        due("15: its GROUP", x.cord(1, 3), 0);
        due("15: DYED", x.undo(), 3);
        due("15: its COLOUR", x.cord(1, 0), 4);
        due("15: another CLUSTER", x.undo(), 2);
        due("15: 505", x.cord(0, 7), 505);
        due("15: MORE", x.undo(), 1);
        due("15: 500", x.cord(0, 7), 500);
        due("15: TIED", x.undo(), 0);
        due("15: 203", x.cord(0, 7), 203);
        due("15: no more", x.undo(), NO);
        for (int v = 1; v <= 9; v++) {
            x.tie(0, v);
        }
        due("15: 8 can be", x.count(5), 8);
        for (int left = 7; left >= 0; left--) {
            due("15: left", x.undo(), left);
        }
        due("15: the ninth can not be", x.undo(), NO);
        due("15: it stays", x.cord(0, 7), 1);
        x.tie(0, 1);
        due("15: a change that changes nothing is one", x.undo(), 0);
        x.tie(0, 2);
        x.keep();
        due("15: KEPT are as they are", x.undo(), 0);
        due("15: KEPT still", x.count(6), 1);
        x.tie(0, 3);
        x.year(1, 0);
        x.mend(0);
        due("15: the answers change nothing", x.count(5), 1);
    }

    private static void wrong() {
        ToldInKnots x = Texts.laid("[1l3(2l4)3e^4l5(5e)][5l3^6l4][7l2][8s1^9e][1e^2s1]");
        due("16: 8 is 2 more than 6", x.wrong(0), 100002);
        due("16: 3 is 1 less than 4", x.wrong(1), 99999);
        due("16: no TOP", x.wrong(2), NONE);
        due("16: no SUM", x.wrong(3), NONE);
        due("16: no WHOLE", x.wrong(4), NONE);
        due("16: no GROUP", x.wrong(5), BAD);
        due("16: below 0", x.wrong(-1), BAD);
        x.more(6, -1);
        due("16: RIGHT", x.wrong(1), 100000);
        String below = "[1.^2s9s9s9l9(" + Texts.repeated("3s9s9s9l9", 13) + ")]";
        due("16: far below", Texts.laid(below).wrong(0), 100000 - 14 * 9999);
    }

    private static void mend(String text, int want) {
        due("17: mend of " + text, Texts.laid(text).mend(0), want);
    }

    private static void mend() {
        mend("[1l3^2l3]", 0);
        mend("[1l3^2l5]", 2);
        mend("[1e^2l9]", 8);
        mend("[1l9^2s1.]", 10);
        mend("[1s1.^2.l9]", 10);
        mend("[1l5(2l9)^3.]", 14);
        mend("[1.(2s1.)^3.]", NONE);
        mend("[1.(2l9)^3.]", 9);
        mend("[1l5(2l4)^3.]", 9);
        mend("[1l9(2l9)^3l9(4l9)]", 0);
        mend("[1.^3.(4s1.)]", NONE);
        mend("[1.^3.(4l9)]", 9);
        mend("[1s9l9^3s1..]", 19);
        mend("[1s9.^3s1.l5]", 15);
        mend("[1s1.l3^2s1l9]", 8);
        mend("[1s9s9s9l8^2s9s9s9l9]", 1);
        mend("[1....^2s9s9s9l9]", 36);
        mend("[1.^2s9s9s9l9]", 36);
        mend("[1e2e3e4e^5s2.]", 6);
        mend("[1l2^2l2(3s1)]", NONE);
        mend("[1l2(3s1)^2l2]", NONE);
        mend("[1s2^2l2]", NONE);
        mend("[1l2]", NONE);
        mend("[1l5^2s1s1.]", 7);
        due("17: the first text", new ToldInKnots().mend(0), 3);
        due("17: no TOP", new ToldInKnots().mend(1), NONE);
        due("17: no GROUP", new ToldInKnots().mend(2), BAD);
        due("17: below 0", new ToldInKnots().mend(-1), BAD);
        String many = "[" + Texts.repeated("1s9s9s9l9", 15) + "^2....]";
        // 149985 less: all 144 of the thousands there are, 59 hundreds, 8 tens and 5
        due("17: as many of the thousands as there are", Texts.laid(many).mend(0), 144 + 59 + 8 + 5);
    }

    private static void slip(String text, int ways, int first) {
        due("18: slips of " + text, Texts.laid(text).slip(0, 0), ways);
        due("18: the first slip of " + text, Texts.laid(text).slip(0, 1), first);
    }

    private static void slip() {
        slip("[1l3^2l3]", 0, NONE);
        slip("[1l3^2l5]", 2, 5);
        slip("[1s1l3^2s1l5]", 2, 5);
        slip("[1s1l3^2s3l3]", 2, 13);
        slip("[1l9^2s1l9]", 1, 110);
        slip("[1.2.^3l2]", 3, 2);
        slip("[1l9^2.]", 2, 0);
        slip("[1l9(2l9)^3l9]", 1, 0);
        slip("[1l9(2l9)^3.]", 0, NONE);
        slip("[1l2(2e)^3l9(4e.)]", 0, NONE);
        slip("[1l2^3e]", 2, 1);
        slip("[1s1^3l2]", 0, NONE);
        slip("[1l2]", 0, NONE);
        slip("[1s1.l2^2s1s1l2]", 2, 11);
        slip("[1s2...^2s1...]", 2, 31);
        slip("[1l91l93l9(4.)^5s2.]", 4, 2);
        slip("[1s1.2s1.^3s1.]", 3, 10);
        due("18: a late CORD", Texts.laid("[1.][1.][1.][1.9.(9.9.9.9.9.9.9.9.9.)][1l3^1l4]").slip(4, 1), 1404);
        due("18: no TOP", new ToldInKnots().slip(1, 1), NONE);
        due("18: what = 2", new ToldInKnots().slip(0, 2), BAD);
        due("18: what = -1", new ToldInKnots().slip(0, -1), BAD);
        due("18: BAD without TOP", new ToldInKnots().slip(1, 2), BAD);
        due("18: no GROUP", new ToldInKnots().slip(2, 0), BAD);
        due("18: below 0", new ToldInKnots().slip(-1, 0), BAD);
        ToldInKnots x = Texts.laid("[0l20.^1l7][2l22l3^3l9]");
        x.hang(0, 1);
        due("18: one that was HUNG is by its number", x.slip(1, 1), 4);
        due("18: nothing changed", x.cord(0, 7), 2);
    }

    private static void lost() {
        ToldInKnots x = Texts.laid("[1s5(2e)3l4(4l2)5s1.^6s2l2(7e)][8l9^9l5][1e]");
        due("19: without WHOLES of the others", x.lost(2), NONE);
        x.tie(0, 5);
        due("19: 23 less 1, 6 and 10", x.lost(0), 23 - 1 - 6 - 10);
        due("19: 23 less 6, 2 and 10", x.lost(2), 23 - 6 - 2 - 10);
        due("19: 23 less 6 and 6", x.lost(4), 23 - 6 - 6);
        x.knot(0, 0, 1, 5);
        due("19: its own VALUE is not asked", x.lost(0), 6);
        x.knot(1, 0, 1, 1);
        due("19: what hangs from it is", x.lost(0), NONE);
        x.undo();
        x.knot(6, 0, 1, 1);
        due("19: what hangs from the TOP is", x.lost(0), NONE);
        due("19: 5 alone", x.lost(7), 5);
        x.tie(8, 0);
        due("19: 0", x.lost(7), 0);
        x.knot(8, 0, 1, 3);
        due("19: no WHOLE of the TOP", x.lost(7), NONE);
        due("19: no TOP", x.lost(9), NONE);
        due("19: no TOP, and all have WHOLES", Texts.laid("[1e][2l5^3l9]").lost(0), NONE);
        due("19: no PENDANT", x.lost(1), NO);
        due("19: hangs from a TOP", x.lost(6), NO);
        due("19: a TOP", x.lost(5), NO);
        due("19: no CORD", x.lost(10), BAD);
        due("19: below 0", x.lost(-1), BAD);
        due("19: below 0 would be", Texts.laid("[1e(2l4)^3l3]").lost(0), NONE);
        due("19: 9999", Texts.laid("[1e^3s9s9s9l8(4e)]").lost(0), 9999);
        due("19: 10000", Texts.laid("[1e^3s9s9s9l9(4e)]").lost(0), NONE);
    }

    private static void closed(String cord, int p, int ways, int least) {
        ToldInKnots x = Texts.laid("[" + cord + "]");
        due("20: ways of " + cord + " at " + p, x.closed(0, p, 0), ways);
        due("20: the least of " + cord + " at " + p, x.closed(0, p, 1), least);
    }

    private static void closed() {
        closed("1.", 1, 1, 0);
        closed("1....", 6, 1, 0);
        closed("1e", 1, 1, 1);
        closed("1e", 6, 1, 1);
        closed("1.e.", 3, 1, 1);
        closed("1s3", 1, 0, NONE);
        closed("1s3", 2, 1, 30);
        closed("1s3", 6, 5, 30);
        closed("1s1s2l3", 2, 0, NONE);
        closed("1s1s2l3", 3, 1, 123);
        closed("1s1s2.l3", 4, 3, 123);
        closed("1s1.s2l3", 6, 10, 123);
        closed("1s1s2s3s4", 4, 0, NONE);
        closed("1s1s2s3s4", 5, 1, 12340);
        closed("1s1s2s3s4", 6, 5, 12340);
        closed("1s1s2s3l4", 3, 0, NONE);
        closed("1s1s2s3l4", 4, 1, 1234);
        closed("1s1s2s3l4", 6, 10, 1234);
        closed("1l2s1", 6, 0, NONE);
        closed("1es1..", 6, 0, NONE);
        closed("1l2e", 6, 0, NONE);
        closed("1s1l2l3", 6, 0, NONE);
        closed("1s9..e", 2, 1, 91);
        closed("1s9..", 1, 0, NONE);
        ToldInKnots x = new ToldInKnots();
        due("20: p = 0", x.closed(0, 0, 0), BAD);
        due("20: p = 7", x.closed(0, 7, 0), BAD);
        due("20: what = 2", x.closed(0, 3, 2), BAD);
        due("20: what = -1", x.closed(0, 3, -1), BAD);
        due("20: no CORD", x.closed(7, 3, 0), BAD);
        due("20: below 0", x.closed(-1, 3, 0), BAD);
    }

    private static void order(String pendants, int want) {
        due("21: order of " + pendants, Texts.laid("[" + pendants + "^9s1]").order(0), want);
    }

    private static void order() {
        order("1e", 0);
        order("1l21l2", 0);
        order("1l31l2", 1);
        order("1e1l21l3", 0);
        order("1l31l21e", 2);
        order("1l91e1l21l31l4", 1);
        order("1l51l61l71e1l2", 2);
        order("1l21l21e1l21l2", 1);
        order("1l31e1l41e1l51e", 3);
        order("1s1.1l9", 1);
        order("1l9(2e)1s1.", 0);
        order("1l2(2s1)1l3", 0);
        order("1l2(2s9.)1l3", 0);
        order("1l21s3", NONE);
        order("1s21l3", NONE);
        ToldInKnots x = Texts.laid("[1l51l6][1l71l81l9]");
        x.hang(0, 1);
        due("21: HUNG behind 7, 8, 9", x.order(1), 1);
        due("21: where it was", x.order(0), 0);
        due("21: no GROUP", x.order(2), BAD);
        due("21: below 0", x.order(-1), BAD);
    }

    private static void share(String text, int g, int set, int unlike) {
        due("22: set of " + text, Texts.laid(text).share(g, 0), set);
        due("22: by how much, of " + text, Texts.laid(text).share(g, 1), unlike);
    }

    private static void share() {
        share("[1l9]", 0, 0, 9);
        share("[1.]", 0, 0, 0);
        share("[1l91l9]", 0, 1, 0);
        share("[1l31l41l51l6]", 0, 0b0110, 0);
        share("[1l21l31l41l51l6]", 0, 0b01011, 0);
        share("[1l2(2s9.)3l3^4l2]", 0, 1, 1);
        share("[1l8^2e][3l5^4s3][5l2]", 5, 0b0001, 1);
        share("[1l8^2e][3l5^4s3][5l2]", 1, 0, 5);
        share("[1s3^2e][3l5]", 0, NONE, NONE);
        share("[1s3^2e][3l5]", 1, 0, 5);
        share("[1s3^2e][3l5]", 5, NONE, NONE);
        share("[1.1l2(5s3)1l2]", 0, 0b010, 0);
        share("[" + Texts.repeated("1s9s9s9l9", 16) + "]", 0, 0xFF, 0);
        share("[" + Texts.repeated("1s9s9s9l9", 15) + "]", 0, 0x7F, 9999);
        share("[1s1...1s2..1s4.1l8]", 0, 0b0001, 1000 - 248);
        share("[1e1e1e1e1e1e1e1e1e1l9]", 0, 0b111111111, 0);
        share("[" + Texts.repeated("1s1..", 8) + "1s9s9.1s2..]", 0, 0x100, 10);
        due("22: what = 2", new ToldInKnots().share(0, 2), BAD);
        due("22: what = -1", new ToldInKnots().share(0, -1), BAD);
        due("22: GROUP 2 of 2", new ToldInKnots().share(2, 0), BAD);
        due("22: GROUP 4 of 2", new ToldInKnots().share(4, 0), BAD);
        due("22: 6", new ToldInKnots().share(6, 0), BAD);
        due("22: below 0", new ToldInKnots().share(-1, 0), BAD);
        due("22: BAD is ahead of NONE", Texts.laid("[1s3]").share(0, 2), BAD);
        due("22: all of five GROUPS", Texts.laid(Texts.repeated("[1e]", 5)).share(5, 0), 0b00011);
        ToldInKnots x = Texts.laid("[1e1l21l3][1l4]");
        x.hang(0, 1);
        due("22: with one that was HUNG", x.share(1, 0), 1);
        due("22: without it", x.share(0, 0), 2);
    }

    private static void make(String text, int v, int want) {
        due("23: make(" + v + ") of " + text, Texts.laid(text).make(v), want);
    }

    private static void make() {
        make("[1e1l21l3]", 0, 0);
        make("[1.1l21l3]", 0, 0);
        make("[1e1l21l3]", 3, 0b100);
        make("[1e1l21l3]", 4, 0b101);
        make("[1e1l21l3]", 6, 0b111);
        make("[1e1l21l3]", 7, NONE);
        make("[1l31l31l3]", 6, 0b011);
        make("[1l21l41l31l3]", 6, 0b0011);
        make("[1e1l51l21l4]", 6, 0b0011);
        make("[1l51s31l2]", 3, NONE);
        make("[1l51s31l2]", 7, 0b101);
        make("[1l5(2l2)^3l7]", 7, NONE);
        make("[1l5^3l7][1l2]", 7, 0b101);
        make("[1e1e1l21l3^9l9][1s1.]", 13, 0b101000);
        make("[1s9s9s9l9]", 9999, 1);
        make("[" + Texts.repeated("1e", 16) + "]", 16, 0xFFFF);
        make("[" + Texts.repeated("1e", 16) + "]", 8, 0x00FF);
        make("[" + Texts.repeated("1e", 16) + "]", 17, NONE);
        make("[1e1e1e1e1e1e1e1e1l31e1e]", 3, 0x100);
        make("[1l91e1e1e1e1e1e1e1l31l6]", 9, 1);
        make("[1e1e1l61e1e1e1e1e1l31l6]", 9, 0x104);
        ToldInKnots x = new ToldInKnots();
        due("23: make(10000)", x.make(10000), BAD);
        due("23: make(-1)", x.make(-1), BAD);
        due("23: least", x.make(LEAST), BAD);
        due("23: most", x.make(MOST), BAD);
    }

    private static void colours() {
        ToldInKnots x = Texts.laid("[1l2(2l3(1l4))1s5^1l6(2s1)][0s9.2s7]");
        due("24: of COLOUR 1", x.colours(1, 0), 2 + 4 + 6);
        due("24: how many of 1", x.colours(1, 1), 4);
        due("24: of COLOUR 2", x.colours(2, 0), 3);
        due("24: how many of 2", x.colours(2, 1), 3);
        due("24: of COLOUR 0", x.colours(0, 0), 90);
        due("24: how many of 0", x.colours(0, 1), 1);
        due("24: none of 9", x.colours(9, 0), 0);
        due("24: how many of 9", x.colours(9, 1), 0);
        x.dye(0, 9);
        due("24: DYED", x.colours(9, 0), 2);
        due("24: COLOUR 10", x.colours(10, 0), BAD);
        due("24: COLOUR -1", x.colours(-1, 0), BAD);
        due("24: what = 2", x.colours(1, 2), BAD);
        due("24: what = -1", x.colours(1, -1), BAD);
    }

    private static void path() {
        ToldInKnots x = Texts.laid("[1l2(2l3(3l4)2l52s4)4e^1l6(2s2.(2l9))][1s1(2l7)2.]");
        due("25: 3, 5, 20 and 7 from COLOUR 1", x.path(1, 2), 3 + 5 + 20 + 7);
        due("25: none two below", x.path(1, 3), 0);
        due("25: one below", x.path(2, 3), 4);
        due("25: of the same COLOUR", x.path(2, 2), 9);
        due("25: not the other way", x.path(2, 1), 0);
        due("25: none hang from 4", x.path(4, 2), 0);
        due("25: 10", x.path(10, 1), BAD);
        due("25: and 10", x.path(1, 10), BAD);
        due("25: -1", x.path(-1, 1), BAD);
        due("25: and -1", x.path(1, -1), BAD);
        x.dye(1, 0);
        due("25: DYED", x.path(1, 0), 3);
    }

    private static void same() {
        ToldInKnots x = Texts.laid("[1e(2e3e)1e(2e3e)1e(3e2e)1e(2e(3e))^1e(2e3e)][1e]");
        due("26: the same", x.same(0, 3), 1);
        due("26: the other way about", x.same(3, 0), 1);
        due("26: a TOP", x.same(0, 12), 1);
        due("26: in another order", x.same(0, 6), 0);
        due("26: one below the other", x.same(0, 9), 0);
        due("26: fewer", x.same(0, 15), 0);
        due("26: more", x.same(15, 0), 0);
        due("26: what hangs", x.same(1, 4), 1);
        due("26: from elsewhere", x.same(1, 8), 1);
        due("26: with one below", x.same(1, 10), 0);
        due("26: other COLOURS", x.same(1, 2), 0);
        due("26: no CORD", x.same(0, 16), BAD);
        due("26: none", x.same(-1, 0), BAD);
        due("26: alike", x.same(3, 3), BAD);
        due("26: most", x.same(MOST, LEAST), BAD);
        ToldInKnots y = Texts.laid("[1e.2e.(2e)2e.1.e1e(2e)][1e1s11e.1e..2e1e.]");
        due("26: other CLUSTERS", y.same(0, 4), 0);
        due("26: fewer CLUSTERS", y.same(0, 7), 0);
        due("26: another kind", y.same(7, 8), 0);
        due("26: from a deeper one", y.same(2, 11), 1);
        due("26: one has one below", y.same(1, 3), 0);
        due("26: more CLUSTERS", y.same(9, 10), 0);
        due("26: the same in the other GROUP", y.same(0, 9), 1);
        y.dye(9, 4);
        due("26: DYED", y.same(0, 9), 0);
        ToldInKnots z = Texts.laid("[1e(1e(1e))1e(1e1e)]");
        due("26: two below alike, elsewhere", z.same(0, 3), 0);
        due("26: one below it", z.same(0, 1), 0);
    }

    private static void year() {
        ToldInKnots x = new ToldInKnots();
        x.tie(2, 99);
        // draws less 10 for z = 5: 4 for CORD 0, 0 for CORD 2, 10 for CORD 4
        due("27: WORK", x.year(5, 0), 3 + 7 + 5 + 9);
        due("27: VALUES", x.year(5, 1), 207 + 99 + 9);
        due("27: nothing changed", x.cord(0, 7), 203);
        due("27: nothing can be UNDONE for it", x.count(5), 1);
        // z = 0: CORD 0 has x = 1, its draw is 0: ten less
        ToldInKnots y = Texts.laid("[1s1l2][1l9]");
        due("27: 12 less 10, CORD 1 by its own draw", y.year(0, 1), 2 + drawn(0, 1, 9, 9));
        ToldInKnots z = Texts.laid("[1l5(2l5)^3l5]");
        due("27: 0 at least", z.year(0, 1), 0);
        due("27: WORK of a LONG 5 to a GAP", z.year(0, 0), 5);
        due("27: not WELL KNOTTED ones are left", Texts.laid("[1s5]").year(0, 1), 0);
        due("27: nor have they WORK", Texts.laid("[1s5]").year(0, 0), 0);
        due("27: as the drawing says for 9999", Texts.laid("[1s5.]").year(9999, 1), drawn(9999, 0, 50, 99));
        due("27: what = 2", x.year(5, 2), BAD);
        due("27: what = -1", x.year(5, -1), BAD);
        due("27: z = 10000", x.year(10000, 0), BAD);
        due("27: z = -1", x.year(-1, 0), BAD);
        due("27: z = 9999", x.year(9999, 2), BAD);
    }

    private static int drawn(int z, int c, int value, int most) {
        long x = 7919L * z + 6151L * c + 1;
        int then = value + (int) ((x * x % 65521 / 8) % 21) - 10;
        return Math.max(0, Math.min(most, then));
    }

    private static void keep() {
        ToldInKnots x = new ToldInKnots();
        due("28: one", x.keep(), 1);
        due("28: two", x.keep(), 2);
        due("28: no third", x.keep(), FULL);
        due("28: two still", x.count(6), 2);
        x.back();
        due("28: two again", x.keep(), 2);
    }

    private static void back() {
        ToldInKnots x = Texts.laid("[1s2.l3(4e)2s1e^3l2][5.]");
        due("29: nothing KEPT", x.back(), NO);
        x.keep();
        x.tie(0, 7);
        x.dye(1, 9);
        x.hang(0, 1);
        x.keep();
        x.tie(0, 8);
        due("29: as KEPT last", x.back(), 1);
        due("29: 7", x.cord(0, 7), 7);
        due("29: COLOUR 9", x.cord(1, 0), 9);
        due("29: in GROUP 1", x.pendant(1, 1), 0);
        due("29: nothing is UNDONE", x.undo(), NO);
        x.dye(0, 0);
        due("29: as KEPT first", x.back(), 0);
        due("29: 203", x.cord(0, 7), 203);
        due("29: COLOUR 4", x.cord(1, 0), 4);
        due("29: COLOUR 1", x.cord(0, 0), 1);
        due("29: in GROUP 0", x.pendant(0, 0), 0);
        due("29: and what hangs from it", x.cord(1, 3), 0);
        due("29: nothing to be UNDONE", x.count(5), 0);
        due("29: no more", x.back(), NO);
        x.dye(0, 2);
        due("29: NO changes nothing", x.back(), NO);
        due("29: UNDONE then", x.undo(), 0);
    }

    private static void count() {
        ToldInKnots x = Texts.laid("[1l2(2l3(3s4))4e^1l6][1s1.e^2.][3el2]");
        int[] want = {8, 3, 2, 6, 2 + 3 + 4 + 2 + 6 + 3 + 0 + 4, 0, 0, 37};
        for (int what = 0; what < want.length; what++) {
            due("30: count(" + what + ")", x.count(what), want[what]);
        }
        x.tie(0, 9);
        x.keep();
        x.write('x');
        due("30: one that can be UNDONE", x.count(5), 1);
        due("30: one KEPT", x.count(6), 1);
        due("30: 38 letters", x.count(7), 38);
        due("30: seven KNOTS more", x.count(4), 31);
        due("30: 8", x.count(8), BAD);
        due("30: -1", x.count(-1), BAD);
        due("30: most", x.count(MOST), BAD);
    }
}
