/**
 * Promises 1 to 13 by small examples whose answers can be followed by hand. The edges and the
 * refused calls, and with them Promise 14, are in EdgesTest and RefusalsTest.
 */
public final class PromisesTest {
    private static final int BOARD_OF_FOURS = 36 * 65536;

    private static Check check;

    public static void main(String[] args) {
        check = new Check("PromisesTest");
        promise1NewObject();
        promise2Weight();
        promise3All();
        promise4Turn();
        promise5Force();
        promise6WeightOf();
        promise7Total();
        promise8TotalWith();
        promise9TotalWithBoth();
        promise10Possible();
        promise11CanUse();
        promise12Settled();
        promise13AcrossTotal();
        objectsAreApart();
        check.end();
    }

    private static void promise1NewObject() {
        DimerCounter x = new DimerCounter();
        for (int p = 0; p < 24; p++) {
            check.due("1: weightOf(" + p + ")", x.weightOf(p), 1);
        }
        check.due("1: total()", x.total(), 36);
    }

    private static void promise2Weight() {
        DimerCounter x = new DimerCounter();
        for (int p = 0; p < 24; p++) {
            int old = 1;
            for (int w = 4; w >= 0; w--) {
                check.due("2: weight(" + p + ", " + w + ")", x.weight(p, w), old);
                check.due("2: weightOf(" + p + ")", x.weightOf(p), w);
                old = w;
            }
            check.due("2: weight again", x.weight(p, p % 5), 0);
        }
        Boards.dueStriped(check, "2: weight", x);
    }

    private static void promise3All() {
        DimerCounter x = Boards.striped();
        for (int w = 0; w <= 4; w++) {
            check.due("3: all(" + w + ")", x.all(w), 0);
            for (int p = 0; p < 24; p++) {
                check.due("3: all(" + w + "), weightOf(" + p + ")", x.weightOf(p), w);
            }
        }
    }

    /** The place on which place p lies after a quarter turn, by the document's rule for squares. */
    private static final int[] TURNED_TO = {
        15, 19, 23, 14, 18, 22, 13, 17, 21, 12, 16, 20,
        2, 5, 8, 11, 1, 4, 7, 10, 0, 3, 6, 9,
    };

    private static void promise4Turn() {
        for (int p = 0; p < 24; p++) {
            DimerCounter x = new DimerCounter();
            x.weight(p, 3);
            int at = p;
            for (int turns = 1; turns <= 4; turns++) {
                x.turn();
                at = TURNED_TO[at];
                for (int q = 0; q < 24; q++) {
                    check.due("4: 3 on " + p + ", " + turns + " turns, weightOf(" + q + ")",
                            x.weightOf(q), q == at ? 3 : 1);
                }
            }
            check.due("4: four turns bring place " + p + " back to", at, p);
        }
        DimerCounter y = Boards.striped();
        y.turn();
        for (int p = 0; p < 24; p++) {
            check.due("4: striped, where " + p + " went", y.weightOf(TURNED_TO[p]), p % 5);
        }
        y.turn();
        y.turn();
        y.turn();
        Boards.dueStriped(check, "4: four turns", y);
    }

    private static void promise5Force() {
        DimerCounter corner = new DimerCounter();
        check.due("5: force(0, 0)", corner.force(0, 0), 1);
        check.due("5: the other place of the corner", corner.weightOf(12), 0);
        check.due("5: the place given", corner.weightOf(0), 1);
        check.due("5: force(0, 0) again", corner.force(0, 0), 0);
        check.due("5: force(0, 12), 12 having the weight 0", corner.force(0, 12), 1);
        check.due("5: weight 0 stays", corner.weightOf(12), 0);
        check.due("5: place 0 now", corner.weightOf(0), 0);
        check.due("5: no tiling is left", corner.total(), 0);

        DimerCounter edge = new DimerCounter();
        check.due("5: force(1, 13)", edge.force(1, 13), 2);

        DimerCounter last = new DimerCounter();
        check.due("5: force(15, 23)", last.force(15, 23), 1);
        check.due("5: place 11", last.weightOf(11), 0);

        DimerCounter inner = new DimerCounter();
        inner.all(4);
        inner.weight(17, 2);
        check.due("5: force(5, 17)", inner.force(5, 17), 3);
        for (int p = 0; p < 24; p++) {
            int want = p == 17 ? 2 : p == 3 || p == 4 || p == 13 ? 0 : 4;
            check.due("5: force(5, 17), weightOf(" + p + ")", inner.weightOf(p), want);
        }

        DimerCounter half = new DimerCounter();
        half.weight(3, 0);
        check.due("5: a weight of 0 is not counted", half.force(5, 4), 2);
    }

    private static void promise6WeightOf() {
        Boards.dueStriped(check, "6: striping", Boards.striped());
    }

    private static void promise7Total() {
        DimerCounter x = new DimerCounter();
        x.all(2);
        check.due("7: total() of twos", x.total(), 36 * 256);
        x.all(4);
        check.due("7: total() of fours", x.total(), BOARD_OF_FOURS);
        x.all(0);
        check.due("7: total() of zeros", x.total(), 0);
        check.due("7: total() of one tiling", Boards.acrossOnly(3).total(), 6561);
        DimerCounter y = new DimerCounter();
        y.weight(0, 3);
        check.due("7: half the tilings threefold", y.total(), 18 + 3 * 18);
    }

    private static void promise8TotalWith() {
        DimerCounter x = new DimerCounter();
        // A corner is covered across in half of the tilings, by symmetry. Place 5 is in 12 of
        // them, as ../shared/tests has 24 without it. The shares of the places that cover one
        // square add up to 36: 18 + 12 + 6 on an edge, 12 + 12 + 6 + 6 inside.
        int[] acrossShares = {18, 6, 18, 12, 6, 12, 12, 6, 12, 18, 6, 18};
        for (int p = 0; p < 12; p++) {
            check.due("8: totalWith(" + p + ")", x.totalWith(p), acrossShares[p]);
            check.due("8: totalWith(turned " + p + ")", x.totalWith(TURNED_TO[p]), acrossShares[p]);
        }
        x.weight(4, 4);
        check.due("8: totalWith(4), weight 4", x.totalWith(4), 24);
        x.weight(4, 0);
        check.due("8: totalWith(4), weight 0", x.totalWith(4), 0);
        x.all(4);
        check.due("8: totalWith(0) of fours", x.totalWith(0), BOARD_OF_FOURS / 2);
    }

    private static void promise9TotalWithBoth() {
        DimerCounter x = new DimerCounter();
        x.weight(0, 3);
        check.due("9: the same place twice", x.totalWithBoth(0, 0), 54);
        check.due("9: on each other", x.totalWithBoth(0, 12), 0);
        check.due("9: on each other in a row", x.totalWithBoth(0, 1), 0);
        x.all(1);
        // The upper row lies across: the three rows below it have 11 tilings.
        check.due("9: the upper row", x.totalWithBoth(0, 2), 11);
        check.due("9: in the other order", x.totalWithBoth(2, 0), 11);
        // With 0, square 4 is covered by 3 or by 16; each of the 6 tilings with 16 has 0 too.
        check.due("9: 0 and 16", x.totalWithBoth(0, 16), 6);
        check.due("9: a square of four", x.totalWithBoth(0, 3), 18 - 6);
        x.weight(0, 2);
        x.weight(2, 4);
        check.due("9: both weights count", x.totalWithBoth(0, 2), 88);
    }

    private static void promise10Possible() {
        DimerCounter x = new DimerCounter();
        check.due("10: possible()", x.possible(), 36);
        x.all(4);
        check.due("10: possible() of fours", x.possible(), 36);
        x.weight(0, 0);
        check.due("10: possible() without place 0", x.possible(), 18);
        x.weight(12, 0);
        check.due("10: a corner that nothing covers", x.possible(), 0);
        check.due("10: possible() of one tiling", Boards.acrossOnly(4).possible(), 1);
    }

    private static void promise11CanUse() {
        DimerCounter x = new DimerCounter();
        for (int p = 0; p < 24; p++) {
            check.due("11: canUse(" + p + ")", x.canUse(p), true);
        }
        x.weight(0, 0);
        check.due("11: canUse(0), weight 0", x.canUse(0), false);
        DimerCounter y = Boards.acrossOnly(2);
        for (int p = 0; p < 24; p++) {
            check.due("11: across only, canUse(" + p + ")", y.canUse(p), p < 12 && p % 3 != 1);
        }
    }

    private static void promise12Settled() {
        DimerCounter x = new DimerCounter();
        check.due("12: settled()", x.settled(), 0);
        check.due("12: settled() of one tiling", Boards.acrossOnly(4).settled(), 8);
        x.force(0, 0);
        check.due("12: settled() after one corner", x.settled(), 1);
        x.force(3, 2);
        check.due("12: settled() after the upper row", x.settled(), 2);
        x.all(0);
        check.due("12: settled() without tilings", x.settled(), 24);
        x.all(4);
        check.due("12: settled() of fours", x.settled(), 0);
        x.weight(0, 0);
        x.weight(12, 0);
        check.due("12: weights left, but no tiling", x.settled(), 24);
    }

    private static void promise13AcrossTotal() {
        DimerCounter x = new DimerCounter();
        check.due("13: acrossTotal()", x.acrossTotal(), 144);
        x.all(4);
        check.due("13: acrossTotal() of fours", x.acrossTotal(), 144 * 65536);
        x.all(0);
        check.due("13: acrossTotal() of zeros", x.acrossTotal(), 0);
        DimerCounter y = Boards.acrossOnly(2);
        check.due("13: all lie across", y.acrossTotal(), 8 * 256);
        y.turn();
        check.due("13: none lies across", y.acrossTotal(), 0);
        check.due("13: though there is a tiling", y.total(), 256);
    }

    private static void objectsAreApart() {
        DimerCounter x = Boards.striped();
        DimerCounter y = new DimerCounter();
        y.all(3);
        y.turn();
        Boards.dueStriped(check, "a change of another object", x);
    }
}
