import java.util.List;

/**
 * Each sentence of the document that names an edge of another kind than a refusal (the least, the
 * greatest, none, all, the same, once round) has a test of its own: main names the sentence beside
 * its test. No object gets more than the document's 512 calls.
 */
public final class EdgesTest {
    private static final int TILINGS = 36;
    private static final int GREATEST_WORTH = 65536;

    private static final Check check = new Check("EdgesTest");

    public static void main(String[] args) {
        String calls = "An object is used for at most 512 calls after it has been made";
        check.sentence("What it is, call 512", calls, EdgesTest::call512IsAnswered);
        check.sentence("What it is, call 511", calls, EdgesTest::call511IsSeenByCall512);
        check.sentence("What it is, one call 512 times", calls, EdgesTest::allOf512CallsAreAnswered);

        check.sentence("Terms", "The BOARD has four rows and four columns of SQUARES (0 to 15)",
                EdgesTest::placesOnEachSquare);
        check.sentence("Terms", "0 to 11 lie across: place r * 3 + c covers the squares (r, c) and (r, c + 1)",
                EdgesTest::placesThatLieAcross);
        check.sentence("Terms", "12 to 23 stand upright: place 12 + r * 4 + c covers (r, c) and (r + 1, c).",
                EdgesTest::placesThatStandUpright);
        check.sentence("Terms", "Every place has a WEIGHT, 0 to 4.", EdgesTest::everyWeightOnEveryPlace);
        check.sentence("Terms", "A TILING is a set of eight places", EdgesTest::eightPlacesInATiling);
        check.sentence("Terms", "that covers every square just once", EdgesTest::everySquareJustOnce);
        check.sentence("Terms", "there are 36 of them.", EdgesTest::thirtySixTilings);
        check.sentence("Terms", "Its WORTH is the product of its places' weights. (At most 4 to the 8th.)",
                EdgesTest::leastAndGreatestWorth);

        check.sentence("Promise 1", "All weights 1.", EdgesTest::newObject);
        check.sentence("Promise 2", "Else answers the old one.", EdgesTest::weightAnswersTheOldOne);
        check.sentence("Promise 3", "All weights become this one.", EdgesTest::allSetsEveryWeight);
        check.sentence("Promise 3", "Else answers 0.", EdgesTest::allAnswers0);
        check.sentence("Promise 4", "what stood on square (r, c) stands on (c, 3 - r)", EdgesTest::turnOnce);
        check.sentence("Promise 4, once round", "The board is turned a quarter to the right",
                EdgesTest::fourTurnsBringAllBack);
        check.sentence("Promise 5", "Every place that covers square s gets the weight 0",
                EdgesTest::forceClearsTheSquare);
        check.sentence("Promise 5", "but the one given, whose weight stays.", EdgesTest::forceLeavesTheGiven);
        check.sentence("Promise 5", "Else answers how many weights have changed.",
                EdgesTest::forceCountsWhatChanged);
        check.sentence("Promise 6", "A place's weight.", EdgesTest::weightOfAtTheEnds);
        check.sentence("Promise 7", "The sum of the worths of all tilings.", EdgesTest::totalOfNoneAndOfAll);
        check.sentence("Promise 8", "all tilings with a domino on this place.", EdgesTest::totalWithOfNoneAndOfAll);
        check.sentence("Promise 9", "(which may be the same,", EdgesTest::bothTheSame);
        check.sentence("Promise 9", "or lie on each other)", EdgesTest::bothOnEachOther);
        check.sentence("Promise 10", "How many tilings have a worth above 0.", EdgesTest::possibleOfNoneAndOfAll);
        check.sentence("Promise 11", "Whether some tiling of worth above 0 has a domino on this place.",
                EdgesTest::canUseNeedsAWholeTiling);
        check.sentence("Promise 12", "How many places all tilings of worth above 0 have a domino on",
                EdgesTest::settledFromNoneToEight);
        check.sentence("Promise 12", "24 if there are no such tilings.", EdgesTest::settledWithoutTilings);
        check.sentence("Promise 13", "worth times how many of its dominoes lie across.",
                EdgesTest::acrossTotalFromNoneToAll);
        check.end();
    }

    /** One weight and then turns, which carry the 3 from place 0 to 15, 11, 20 and back. */
    private static DimerCounter afterCalls(int calls) {
        DimerCounter x = new DimerCounter();
        x.weight(0, 3);
        for (int call = 2; call <= calls; call++) {
            x.turn();
        }
        return x;
    }

    /** 510 turns are as good as two: the 3 stands on place 11. */
    private static DimerCounter after511Calls() {
        return afterCalls(511);
    }

    private static void call512IsAnswered() {
        check.due("call 512, weight(11, 4)", after511Calls().weight(11, 4), 3);
        check.due("call 512, weight(24, 5)", after511Calls().weight(24, 5), -1);
        check.due("call 512, weight(23, 5)", after511Calls().weight(23, 5), -2);
        check.due("call 512, all(4)", after511Calls().all(4), 0);
        check.due("call 512, all(5)", after511Calls().all(5), -2);
        check.due("call 512, force(15, 11)", after511Calls().force(15, 11), 1);
        check.due("call 512, force(16, 11)", after511Calls().force(16, 11), -1);
        check.due("call 512, weightOf(11)", after511Calls().weightOf(11), 3);
        check.due("call 512, total()", after511Calls().total(), 18 + 3 * 18);
        check.due("call 512, totalWith(11)", after511Calls().totalWith(11), 3 * 18);
        check.due("call 512, totalWithBoth(11, 11)", after511Calls().totalWithBoth(11, 11), 3 * 18);
        check.due("call 512, possible()", after511Calls().possible(), TILINGS);
        check.due("call 512, canUse(11)", after511Calls().canUse(11), true);
        check.due("call 512, settled()", after511Calls().settled(), 0);
        BoardModel model = new BoardModel();
        model.weight(11, 3);
        check.due("call 512, acrossTotal()", after511Calls().acrossTotal(), model.acrossTotal());
        // Where a turn has brought the weights would be seen by call 513, whose answer is free.
        after511Calls().turn();
    }

    /** After 509 turns, which are as good as one, the 3 stands on place 15. */
    private static void call511IsSeenByCall512() {
        DimerCounter weighted = afterCalls(510);
        check.due("call 511, weight(15, 4)", weighted.weight(15, 4), 3);
        check.due("call 512, weightOf(15)", weighted.weightOf(15), 4);
        DimerCounter even = afterCalls(510);
        check.due("call 511, all(2)", even.all(2), 0);
        check.due("call 512, total()", even.total(), TILINGS * 256);
        DimerCounter forced = afterCalls(510);
        check.due("call 511, force(3, 2)", forced.force(3, 2), 1);
        check.due("call 512, after force: weightOf(15)", forced.weightOf(15), 0);
        DimerCounter turned = afterCalls(510);
        turned.turn();
        check.due("call 512, after turn: weightOf(11)", turned.weightOf(11), 3);
    }

    private static void allOf512CallsAreAnswered() {
        DimerCounter changing = new DimerCounter();
        for (int call = 1; call <= 512; call++) {
            int old = call == 1 ? 1 : (call - 1) % 5;
            check.due("call " + call + ", weight(23, " + call % 5 + ")", changing.weight(23, call % 5), old);
        }
        DimerCounter refusing = new DimerCounter();
        for (int call = 1; call <= 511; call++) {
            check.due("call " + call + ", force(16, 24)", refusing.force(16, 24), -1);
        }
        check.due("call 512 after refused ones, total()", refusing.total(), TILINGS);
    }

    /** A corner lies on two places, an edge square on three, an inner one on four. */
    private static void placesOnEachSquare() {
        int[] placesOn = {
            2, 3, 3, 2,
            3, 4, 4, 3,
            3, 4, 4, 3,
            2, 3, 3, 2,
        };
        for (int s = 0; s < 16; s++) {
            int accepted = 0;
            for (int p = 0; p < 24; p++) {
                int answer = new DimerCounter().force(s, p);
                if (answer != DimerCounter.BAD_PLACE) {
                    accepted++;
                    check.due("force(" + s + ", " + p + ")", answer, placesOn[s] - 1);
                }
            }
            check.due("places that cover square " + s, accepted, placesOn[s]);
        }
    }

    private static void dueCoversJust(int place, int one, int other) {
        for (int s = 0; s < 16; s++) {
            boolean refused = new DimerCounter().force(s, place) == DimerCounter.BAD_PLACE;
            check.due("whether place " + place + " covers square " + s, !refused, s == one || s == other);
        }
    }

    private static void placesThatLieAcross() {
        for (int r = 0; r < 4; r++) {
            for (int c = 0; c < 3; c++) {
                dueCoversJust(r * 3 + c, r * 4 + c, r * 4 + c + 1);
            }
        }
        dueCoversJust(0, 0, 1);
        dueCoversJust(2, 2, 3);
        dueCoversJust(3, 4, 5);
        dueCoversJust(11, 14, 15);
    }

    private static void placesThatStandUpright() {
        for (int r = 0; r < 3; r++) {
            for (int c = 0; c < 4; c++) {
                dueCoversJust(12 + r * 4 + c, r * 4 + c, (r + 1) * 4 + c);
            }
        }
        dueCoversJust(12, 0, 4);
        dueCoversJust(15, 3, 7);
        dueCoversJust(20, 8, 12);
        dueCoversJust(23, 11, 15);
    }

    private static void everyWeightOnEveryPlace() {
        for (int p = 0; p < 24; p++) {
            for (int w = 0; w <= 4; w++) {
                DimerCounter x = new DimerCounter();
                x.weight(p, w);
                for (int q = 0; q < 24; q++) {
                    check.due("after weight(" + p + ", " + w + "): weightOf(" + q + ")", x.weightOf(q),
                            q == p ? w : 1);
                }
            }
        }
    }

    private static void eightPlacesInATiling() {
        DimerCounter x = new DimerCounter();
        int shares = 0;
        for (int p = 0; p < 24; p++) {
            shares += x.totalWith(p);
        }
        check.due("the dominoes of all tilings", shares, 8 * TILINGS);
        check.due("the only tiling's dominoes", Boards.acrossOnly(1).settled(), 8);
        check.due("the only tiling's dominoes, upright", Boards.uprightOnly(1).settled(), 8);
    }

    private static void everySquareJustOnce() {
        for (int s = 0; s < 16; s++) {
            DimerCounter bare = new DimerCounter();
            int shares = 0;
            for (int p = 0; p < 24; p++) {
                if (Boards.covers(p, s)) {
                    shares += new DimerCounter().totalWith(p);
                    bare.weight(p, 0);
                }
            }
            check.due("how often the tilings cover square " + s, shares, TILINGS);
            check.due("tilings, if nothing covers square " + s, bare.possible(), 0);
        }
    }

    private static void thirtySixTilings() {
        check.due("possible()", new DimerCounter().possible(), TILINGS);
        check.due("total()", new DimerCounter().total(), TILINGS);
        List<List<Integer>> tilings = Boards.tilings();
        check.due("sets of eight places that cover every square just once", tilings.size(), TILINGS);
        // Each of them alone, so that none is missing for which another one stands twice; settled
        // tells that what is counted there has all eight places.
        for (List<Integer> tiling : tilings) {
            DimerCounter x = Boards.even(0);
            tiling.forEach(place -> x.weight(place, 1));
            check.due("the places " + tiling + " alone, possible()", x.possible(), 1);
            check.due("the places " + tiling + " alone, total()", x.total(), 1);
            check.due("the places " + tiling + " alone, settled()", x.settled(), 8);
        }
    }

    private static void leastAndGreatestWorth() {
        int[] worths = {0, 1, 256, 6561, GREATEST_WORTH};
        for (int w = 0; w <= 4; w++) {
            check.due("worth of the tiling across, weights " + w, Boards.acrossOnly(w).total(), worths[w]);
            check.due("worth of the tiling upright, weights " + w, Boards.uprightOnly(w).total(), worths[w]);
        }
        for (int p : new int[] {0, 2, 3, 5, 6, 8, 9, 11}) {
            DimerCounter x = Boards.acrossOnly(4);
            x.weight(p, 3);
            check.due("worth with one weight 3, on " + p, x.total(), GREATEST_WORTH / 4 * 3);
            x.weight(p, 0);
            check.due("worth with one weight 0, on " + p, x.total(), 0);
        }
        // A place that is not in the tiling has no say in its worth.
        DimerCounter y = Boards.acrossOnly(4);
        y.weight(1, 0);
        y.weight(23, 4);
        check.due("worth, other places changed", y.total(), GREATEST_WORTH);
    }

    private static void newObject() {
        DimerCounter x = new DimerCounter();
        for (int p = 0; p < 24; p++) {
            check.due("weightOf(" + p + ")", x.weightOf(p), 1);
        }
        // An object made after another one has been changed is as new as the first.
        x.all(4);
        DimerCounter later = new DimerCounter();
        for (int p = 0; p < 24; p++) {
            check.due("a later object, weightOf(" + p + ")", later.weightOf(p), 1);
            check.due("the earlier object, weightOf(" + p + ")", x.weightOf(p), 4);
        }
    }

    private static void weightAnswersTheOldOne() {
        for (int p = 0; p < 24; p++) {
            DimerCounter x = new DimerCounter();
            check.due("new object, weight(" + p + ", 0)", x.weight(p, 0), 1);
            for (int old = 0; old <= 4; old++) {
                for (int w = 0; w <= 4; w++) {
                    x.weight(p, old);
                    check.due("weight " + old + ", weight(" + p + ", " + w + ")", x.weight(p, w), old);
                    check.due("weight(" + p + ", " + w + ") again", x.weight(p, w), w);
                }
            }
            x.weight(p, 2);
            x.weight(p, 5);
            check.due("after a refused weight, weight(" + p + ", 3)", x.weight(p, 3), 2);
            x.all(4);
            check.due("after all(4), weight(" + p + ", 0)", x.weight(p, 0), 4);
        }
    }

    private static void allSetsEveryWeight() {
        for (int w = 0; w <= 4; w++) {
            DimerCounter x = Boards.striped();
            x.all(w);
            for (int p = 0; p < 24; p++) {
                check.due("after all(" + w + "): weightOf(" + p + ")", x.weightOf(p), w);
            }
        }
    }

    private static void allAnswers0() {
        for (int w = 0; w <= 4; w++) {
            check.due("new object, all(" + w + ")", new DimerCounter().all(w), 0);
            check.due("striped, all(" + w + ")", Boards.striped().all(w), 0);
            check.due("all(" + w + ") again", Boards.even(w).all(w), 0);
        }
    }

    private static int squareAfterTurn(int s) {
        int r = s / 4;
        int c = s % 4;
        return c * 4 + (3 - r);
    }

    private static int placeAfterTurn(int place) {
        int one = squareAfterTurn(Boards.SQUARES_OF[place][0]);
        int other = squareAfterTurn(Boards.SQUARES_OF[place][1]);
        for (int p = 0; p < 24; p++) {
            if (Boards.covers(p, one) && Boards.covers(p, other)) {
                return p;
            }
        }
        throw new IllegalStateException("no place on " + one + " and " + other);
    }

    private static void dueOnlyOn(String after, DimerCounter x, int place) {
        for (int p = 0; p < 24; p++) {
            check.due(after + ": weightOf(" + p + ")", x.weightOf(p), p == place ? 4 : 0);
        }
    }

    private static void turnOnce() {
        for (int p = 0; p < 24; p++) {
            DimerCounter x = Boards.even(0);
            x.weight(p, 4);
            x.turn();
            dueOnlyOn("4 on " + p + ", one turn", x, placeAfterTurn(p));
        }
        // The four corners, told by hand: 0 goes to 3, 3 to 15, 15 to 12, 12 to 0.
        check.due("(0, 0) and (0, 1) go to (0, 3) and (1, 3)", placeAfterTurn(0), 15);
        check.due("(0, 3) and (1, 3) go to (3, 3) and (3, 2)", placeAfterTurn(15), 11);
        check.due("(3, 3) and (3, 2) go to (3, 0) and (2, 0)", placeAfterTurn(11), 20);
        check.due("(3, 0) and (2, 0) go to (0, 0) and (0, 1)", placeAfterTurn(20), 0);
    }

    private static void fourTurnsBringAllBack() {
        for (int p = 0; p < 24; p++) {
            DimerCounter x = Boards.even(0);
            x.weight(p, 4);
            int at = p;
            for (int turns = 1; turns <= 5; turns++) {
                x.turn();
                at = placeAfterTurn(at);
                dueOnlyOn("4 on " + p + ", " + turns + " turns", x, at);
            }
            check.due("five turns are as one for place " + p, at, placeAfterTurn(p));
        }
        DimerCounter y = Boards.striped();
        for (int turns = 1; turns <= 4; turns++) {
            y.turn();
        }
        new Answers(Boards::striped).dueOf(check, "four turns", y);
    }

    private static void forceClearsTheSquare() {
        for (int s = 0; s < 16; s++) {
            for (int place = 0; place < 24; place++) {
                if (Boards.covers(place, s)) {
                    DimerCounter x = Boards.even(4);
                    x.force(s, place);
                    for (int p = 0; p < 24; p++) {
                        check.due("after force(" + s + ", " + place + "): weightOf(" + p + ")", x.weightOf(p),
                                p != place && Boards.covers(p, s) ? 0 : 4);
                    }
                }
            }
        }
    }

    private static void forceLeavesTheGiven() {
        for (int place = 0; place < 24; place++) {
            for (int s : Boards.SQUARES_OF[place]) {
                for (int w = 0; w <= 4; w++) {
                    DimerCounter x = new DimerCounter();
                    x.weight(place, w);
                    x.force(s, place);
                    check.due("weight " + w + ", after force(" + s + ", " + place + ")", x.weightOf(place), w);
                }
            }
        }
    }

    private static void forceCountsWhatChanged() {
        // A weight that was 0 already has not changed, and the one given never does.
        for (int place = 0; place < 24; place++) {
            for (int s : Boards.SQUARES_OF[place]) {
                DimerCounter x = Boards.striped();
                int changing = 0;
                for (int p = 0; p < 24; p++) {
                    changing += p != place && Boards.covers(p, s) && p % 5 != 0 ? 1 : 0;
                }
                check.due("striped, force(" + s + ", " + place + ")", x.force(s, place), changing);
                check.due("force(" + s + ", " + place + ") again", x.force(s, place), 0);
                check.due("zeros, force(" + s + ", " + place + ")", Boards.even(0).force(s, place), 0);
            }
        }
        int[] inner = {3, 4, 13};
        DimerCounter y = new DimerCounter();
        check.due("none of three is 0, force(5, 17)", y.force(5, 17), 3);
        for (int zeros = 1; zeros <= 3; zeros++) {
            y.all(4);
            for (int i = 0; i < zeros; i++) {
                y.weight(inner[i], 0);
            }
            check.due(zeros + " of three are 0, force(5, 17)", y.force(5, 17), 3 - zeros);
        }
        DimerCounter z = new DimerCounter();
        z.weight(17, 0);
        check.due("the one given is 0, force(5, 17)", z.force(5, 17), 3);
        check.due("the corner, force(0, 0)", new DimerCounter().force(0, 0), 1);
        check.due("the edge, force(1, 0)", new DimerCounter().force(1, 0), 2);
    }

    private static void weightOfAtTheEnds() {
        for (int p : new int[] {0, 11, 12, 23}) {
            DimerCounter x = Boards.even(2);
            x.weight(p, 0);
            check.due("weight 0, weightOf(" + p + ")", x.weightOf(p), 0);
            x.weight(p, 4);
            check.due("weight 4, weightOf(" + p + ")", x.weightOf(p), 4);
        }
        Boards.dueStriped(check, "striping", Boards.striped());
    }

    private static void totalOfNoneAndOfAll() {
        check.due("zeros, total()", Boards.even(0).total(), 0);
        check.due("one tiling, total()", Boards.acrossOnly(1).total(), 1);
        check.due("ones, total()", Boards.even(1).total(), TILINGS);
        check.due("fours, total()", Boards.even(4).total(), TILINGS * GREATEST_WORTH);
    }

    private static void totalWithOfNoneAndOfAll() {
        // How many of the 36 tilings have the place; PromisesTest says where the numbers come from.
        int[] acrossShares = {18, 6, 18, 12, 6, 12, 12, 6, 12, 18, 6, 18};
        for (int p = 0; p < 24; p++) {
            int share = acrossShares[p < 12 ? p : placeAfterTurn(p)];
            check.due("zeros, totalWith(" + p + ")", Boards.even(0).totalWith(p), 0);
            check.due("ones, totalWith(" + p + ")", Boards.even(1).totalWith(p), share);
            check.due("fours, totalWith(" + p + ")", Boards.even(4).totalWith(p), share * GREATEST_WORTH);
            DimerCounter x = Boards.even(4);
            x.weight(p, 0);
            check.due("0 on " + p + ", totalWith(" + p + ")", x.totalWith(p), 0);
            boolean inTiling = p < 12 && p % 3 != 1;
            check.due("one tiling, totalWith(" + p + ")", Boards.acrossOnly(2).totalWith(p), inTiling ? 256 : 0);
        }
    }

    private static void bothTheSame() {
        for (int p = 0; p < 24; p++) {
            for (int w = 0; w <= 4; w++) {
                DimerCounter x = new DimerCounter();
                int share = x.totalWith(p);
                x.weight(p, w);
                check.due("weight " + w + ", totalWithBoth(" + p + ", " + p + ")", x.totalWithBoth(p, p), share * w);
            }
        }
        check.due("fours, totalWithBoth(0, 0)", Boards.even(4).totalWithBoth(0, 0), 18 * GREATEST_WORTH);
        check.due("fours, totalWithBoth(23, 23)", Boards.even(4).totalWithBoth(23, 23), 18 * GREATEST_WORTH);
    }

    private static void bothOnEachOther() {
        for (int a = 0; a < 24; a++) {
            DimerCounter x = Boards.even(4);
            for (int b = 0; b < 24; b++) {
                if (Boards.lieOnEachOther(a, b)) {
                    check.due("totalWithBoth(" + a + ", " + b + ")", x.totalWithBoth(a, b), 0);
                }
            }
        }
        // Beside each other is not on each other: two dominoes that fill a whole row or column
        // leave a board of three by four, which has 11 tilings.
        check.due("side by side, totalWithBoth(0, 2)", new DimerCounter().totalWithBoth(0, 2), 11);
        check.due("one above the other, totalWithBoth(12, 20)", new DimerCounter().totalWithBoth(12, 20), 11);
    }

    private static void possibleOfNoneAndOfAll() {
        check.due("zeros, possible()", Boards.even(0).possible(), 0);
        check.due("one tiling, possible()", Boards.acrossOnly(1).possible(), 1);
        check.due("one tiling of greatest worth, possible()", Boards.acrossOnly(4).possible(), 1);
        for (int w = 1; w <= 4; w++) {
            check.due("weights " + w + ", possible()", Boards.even(w).possible(), TILINGS);
        }
        DimerCounter x = Boards.acrossOnly(4);
        x.weight(11, 0);
        check.due("one tiling, but a 0 in it, possible()", x.possible(), 0);
    }

    private static void canUseNeedsAWholeTiling() {
        for (int p = 0; p < 24; p++) {
            check.due("ones, canUse(" + p + ")", new DimerCounter().canUse(p), true);
            check.due("fours, canUse(" + p + ")", Boards.even(4).canUse(p), true);
            check.due("zeros, canUse(" + p + ")", Boards.even(0).canUse(p), false);
            check.due("across only, canUse(" + p + ")", Boards.acrossOnly(4).canUse(p), p < 12 && p % 3 != 1);
            check.due("upright only, canUse(" + p + ")", Boards.uprightOnly(4).canUse(p),
                    p >= 12 && (p < 16 || p >= 20));
            DimerCounter x = Boards.even(4);
            x.weight(p, 0);
            check.due("0 on " + p + ", canUse(" + p + ")", x.canUse(p), false);
            DimerCounter bareCorner = Boards.even(4);
            bareCorner.weight(11, 0);
            bareCorner.weight(23, 0);
            check.due("nothing covers square 15, canUse(" + p + ")", bareCorner.canUse(p), false);
        }
    }

    private static void settledFromNoneToEight() {
        check.due("ones, settled()", new DimerCounter().settled(), 0);
        check.due("fours, settled()", Boards.even(4).settled(), 0);
        check.due("one tiling, settled()", Boards.acrossOnly(1).settled(), 8);
        check.due("one tiling upright, settled()", Boards.uprightOnly(4).settled(), 8);
        DimerCounter x = new DimerCounter();
        x.force(0, 0);
        check.due("after force(0, 0), settled()", x.settled(), 1);
        // With the tiling across and one more, which differs in the two dominoes of one corner.
        DimerCounter two = Boards.acrossOnly(3);
        two.weight(22, 1);
        two.weight(23, 1);
        check.due("two tilings, possible()", two.possible(), 2);
        check.due("two tilings, settled()", two.settled(), 6);
    }

    private static void settledWithoutTilings() {
        check.due("zeros, settled()", Boards.even(0).settled(), 24);
        for (int s = 0; s < 16; s++) {
            DimerCounter x = Boards.even(4);
            for (int p = 0; p < 24; p++) {
                if (Boards.covers(p, s)) {
                    x.weight(p, 0);
                }
            }
            check.due("nothing covers square " + s + ", settled()", x.settled(), 24);
            x.all(1);
            check.due("ones again, settled()", x.settled(), 0);
        }
        DimerCounter y = Boards.acrossOnly(4);
        y.weight(0, 0);
        check.due("one tiling, but a 0 in it, settled()", y.settled(), 24);
    }

    private static void acrossTotalFromNoneToAll() {
        check.due("zeros, acrossTotal()", Boards.even(0).acrossTotal(), 0);
        check.due("no domino across, acrossTotal()", Boards.uprightOnly(4).acrossTotal(), 0);
        check.due("all eight across, acrossTotal()", Boards.acrossOnly(1).acrossTotal(), 8);
        check.due("all eight across, fours, acrossTotal()", Boards.acrossOnly(4).acrossTotal(),
                8 * GREATEST_WORTH);
        // A quarter turn makes each tiling's dominoes across upright ones: half of all lie across.
        check.due("ones, acrossTotal()", new DimerCounter().acrossTotal(), TILINGS * 8 / 2);
        check.due("fours, acrossTotal()", Boards.even(4).acrossTotal(), TILINGS * 8 / 2 * GREATEST_WORTH);
        DimerCounter two = Boards.acrossOnly(1);
        two.weight(22, 1);
        two.weight(23, 1);
        check.due("one with eight and one with six across, acrossTotal()", two.acrossTotal(), 8 + 6);
    }
}
