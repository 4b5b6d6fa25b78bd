import java.util.LinkedHashMap;
import java.util.Map;
import java.util.function.Consumer;
import java.util.function.Supplier;

/**
 * Each sentence of the document by which a call is refused has a test of its own: main names
 * the sentence beside its test. No object gets more than the document's 512 calls.
 */
public final class RefusalsTest {
    private static final int BAD_PLACE = -1;
    private static final int BAD_WEIGHT = -2;

    private static final int[] NO_PLACES = Boards.outside(23);
    private static final int[] NO_SQUARES = Boards.outside(15);
    private static final int[] NO_WEIGHTS = Boards.outside(4);

    private static final Answers STRIPED = new Answers(Boards::striped);

    private static final Check check = new Check("RefusalsTest");

    public static void main(String[] args) {
        check.sentence("The public face", "BAD_PLACE = -1; BAD_WEIGHT = -2", RefusalsTest::constants);

        String places = "A place not in 0 to 23: BAD_PLACE (false for booleans).";
        check.sentence("Terms, weightOf", places, RefusalsTest::weightOfRefusesPlaces);
        check.sentence("Terms, totalWith", places, RefusalsTest::totalWithRefusesPlaces);
        check.sentence("Terms, totalWithBoth, a", places, RefusalsTest::totalWithBothRefusesTheFirst);
        check.sentence("Terms, totalWithBoth, b", places, RefusalsTest::totalWithBothRefusesTheSecond);
        check.sentence("Terms, totalWithBoth, a and b", places, RefusalsTest::totalWithBothRefusesBoth);
        check.sentence("Terms, canUse", places, RefusalsTest::canUseIsFalseForNoPlace);
        check.sentence("Terms", "The calls below change nothing.", RefusalsTest::questionsChangeNothing);
        check.sentence("Terms, refused", "The calls below change nothing.",
                RefusalsTest::refusedQuestionsChangeNothing);

        check.sentence("Promise 2", "place not in 0 to 23: BAD_PLACE", RefusalsTest::weightRefusesPlaces);
        check.sentence("Promise 2", "weight not in 0 to 4: BAD_WEIGHT", RefusalsTest::weightRefusesWeights);
        check.sentence("Promise 2, place", "nothing changes then.",
                RefusalsTest::weightOnNoPlaceChangesNothing);
        check.sentence("Promise 2, weight", "nothing changes then.",
                RefusalsTest::weightOfNoWeightChangesNothing);

        check.sentence("Promise 3", "weight not in 0 to 4: BAD_WEIGHT", RefusalsTest::allRefusesWeights);
        check.sentence("Promise 3", "BAD_WEIGHT, nothing changes.", RefusalsTest::allOfNoWeightChangesNothing);

        check.sentence("Promise 5", "place not in 0 to 23: BAD_PLACE", RefusalsTest::forceRefusesPlaces);
        check.sentence("Promise 5", "s not in 0 to 15", RefusalsTest::forceRefusesSquares);
        check.sentence("Promise 5", "or not covered by the place: BAD_PLACE",
                RefusalsTest::forceRefusesSquaresNotCovered);
        check.sentence("Promise 5, place and s", "BAD_PLACE", RefusalsTest::forceRefusesBoth);
        check.sentence("Promise 5, place", "nothing changes then.", RefusalsTest::forceOfNoPlaceChangesNothing);
        check.sentence("Promise 5, s", "nothing changes then.", RefusalsTest::forceOnNoSquareChangesNothing);
        check.sentence("Promise 5, not covered", "nothing changes then.",
                RefusalsTest::forceOnSquareNotCoveredChangesNothing);

        check.sentence("Promise 14", "weight: BAD_PLACE is tested before BAD_WEIGHT.",
                RefusalsTest::placeIsTestedBeforeWeight);
        check.sentence("Promise 14, Promise 2", "nothing changes then.",
                RefusalsTest::bothWrongChangesNothing);
        check.end();
    }

    private static void constants() {
        check.due("BAD_PLACE", DimerCounter.BAD_PLACE, BAD_PLACE);
        check.due("BAD_WEIGHT", DimerCounter.BAD_WEIGHT, BAD_WEIGHT);
    }

    private static void weightOfRefusesPlaces() {
        for (int bad : NO_PLACES) {
            check.due("weightOf(" + bad + ")", Boards.striped().weightOf(bad), BAD_PLACE);
        }
        check.due("weightOf(0)", Boards.even(3).weightOf(0), 3);
        check.due("weightOf(23)", Boards.even(3).weightOf(23), 3);
    }

    private static void totalWithRefusesPlaces() {
        for (int bad : NO_PLACES) {
            check.due("totalWith(" + bad + ")", new DimerCounter().totalWith(bad), BAD_PLACE);
            check.due("zeros, totalWith(" + bad + ")", Boards.even(0).totalWith(bad), BAD_PLACE);
        }
        // Both cover a corner, as half of the tilings do in the same way.
        check.due("totalWith(0)", new DimerCounter().totalWith(0), 18);
        check.due("totalWith(23)", new DimerCounter().totalWith(23), 18);
    }

    private static void totalWithBothRefusesTheFirst() {
        for (int bad : NO_PLACES) {
            DimerCounter x = new DimerCounter();
            for (int p = 0; p < 24; p++) {
                check.due("totalWithBoth(" + bad + ", " + p + ")", x.totalWithBoth(bad, p), BAD_PLACE);
            }
        }
        check.due("totalWithBoth(0, 0)", new DimerCounter().totalWithBoth(0, 0), 18);
    }

    private static void totalWithBothRefusesTheSecond() {
        for (int bad : NO_PLACES) {
            DimerCounter x = new DimerCounter();
            for (int p = 0; p < 24; p++) {
                check.due("totalWithBoth(" + p + ", " + bad + ")", x.totalWithBoth(p, bad), BAD_PLACE);
            }
        }
        check.due("totalWithBoth(23, 23)", new DimerCounter().totalWithBoth(23, 23), 18);
    }

    private static void totalWithBothRefusesBoth() {
        int[] few = {Integer.MIN_VALUE, -32, -1, 24, 32, Integer.MAX_VALUE};
        for (int a : NO_PLACES) {
            DimerCounter x = new DimerCounter();
            check.due("totalWithBoth(" + a + ", " + a + ")", x.totalWithBoth(a, a), BAD_PLACE);
            for (int b : few) {
                check.due("totalWithBoth(" + a + ", " + b + ")", x.totalWithBoth(a, b), BAD_PLACE);
            }
        }
    }

    private static void canUseIsFalseForNoPlace() {
        for (int bad : NO_PLACES) {
            check.due("canUse(" + bad + ")", new DimerCounter().canUse(bad), false);
            check.due("zeros, canUse(" + bad + ")", Boards.even(0).canUse(bad), false);
        }
        check.due("canUse(0)", new DimerCounter().canUse(0), true);
        check.due("canUse(23)", new DimerCounter().canUse(23), true);
    }

    /** Each question with these places, on an object of its own, which must then answer as before. */
    private static void askEach(String board, Supplier<DimerCounter> make, Answers before, int a, int b) {
        Map<String, Consumer<DimerCounter>> questions = new LinkedHashMap<>();
        questions.put("weightOf(" + a + ")", x -> x.weightOf(a));
        questions.put("totalWith(" + a + ")", x -> x.totalWith(a));
        questions.put("totalWithBoth(" + a + ", " + b + ")", x -> x.totalWithBoth(a, b));
        questions.put("canUse(" + a + ")", x -> x.canUse(a));
        questions.put("total()", x -> x.total());
        questions.put("possible()", x -> x.possible());
        questions.put("settled()", x -> x.settled());
        questions.put("acrossTotal()", x -> x.acrossTotal());
        questions.forEach((name, question) -> {
            DimerCounter x = make.get();
            question.accept(x);
            before.dueOf(check, board + ", " + name, x);
        });
    }

    private static void askEachOnEachPlace(String board, Supplier<DimerCounter> make) {
        Answers before = new Answers(make);
        for (int p = 0; p < 24; p++) {
            askEach(board, make, before, p, p);
            askEach(board, make, before, p, 23 - p);
        }
    }

    private static void questionsChangeNothing() {
        askEachOnEachPlace("striped", Boards::striped);
        askEachOnEachPlace("ones", DimerCounter::new);
        askEachOnEachPlace("fours", () -> Boards.even(4));
        askEachOnEachPlace("zeros", () -> Boards.even(0));
        askEachOnEachPlace("one tiling", () -> Boards.acrossOnly(2));
        for (int a = 0; a < 24; a++) {
            for (int b = 0; b < 24; b++) {
                DimerCounter x = Boards.striped();
                x.totalWithBoth(a, b);
                STRIPED.dueOf(check, "totalWithBoth(" + a + ", " + b + ")", x);
            }
        }
    }

    private static void refusedQuestionsChangeNothing() {
        for (int bad : NO_PLACES) {
            DimerCounter x = Boards.striped();
            x.weightOf(bad);
            x.totalWith(bad);
            x.totalWithBoth(bad, 11);
            x.totalWithBoth(12, bad);
            x.totalWithBoth(bad, bad);
            x.canUse(bad);
            STRIPED.dueOf(check, "the questions of place " + bad, x);
        }
    }

    private static void weightRefusesPlaces() {
        for (int bad : NO_PLACES) {
            DimerCounter x = new DimerCounter();
            for (int w = 0; w <= 4; w++) {
                check.due("weight(" + bad + ", " + w + ")", x.weight(bad, w), BAD_PLACE);
            }
        }
        check.due("weight(0, 3)", new DimerCounter().weight(0, 3), 1);
        check.due("weight(23, 3)", new DimerCounter().weight(23, 3), 1);
    }

    private static void weightRefusesWeights() {
        for (int bad : NO_WEIGHTS) {
            DimerCounter x = new DimerCounter();
            for (int p = 0; p < 24; p++) {
                check.due("weight(" + p + ", " + bad + ")", x.weight(p, bad), BAD_WEIGHT);
            }
        }
        for (int p = 0; p < 24; p++) {
            check.due("weight(" + p + ", 0)", new DimerCounter().weight(p, 0), 1);
            check.due("weight(" + p + ", 4)", new DimerCounter().weight(p, 4), 1);
        }
    }

    private static void weightOnNoPlaceChangesNothing() {
        for (int bad : NO_PLACES) {
            DimerCounter x = Boards.striped();
            for (int w = 0; w <= 4; w++) {
                x.weight(bad, w);
                Boards.dueStriped(check, "weight(" + bad + ", " + w + ")", x);
            }
            STRIPED.dueOf(check, "weight(" + bad + ", 0 to 4)", x);
        }
    }

    private static void weightOfNoWeightChangesNothing() {
        for (int bad : NO_WEIGHTS) {
            DimerCounter x = Boards.striped();
            for (int p = 0; p < 24; p++) {
                x.weight(p, bad);
                check.due("after weight(" + p + ", " + bad + "): weightOf(" + p + ")", x.weightOf(p), p % 5);
            }
            STRIPED.dueOf(check, "weight(0 to 23, " + bad + ")", x);
        }
    }

    private static void allRefusesWeights() {
        for (int bad : NO_WEIGHTS) {
            check.due("all(" + bad + ")", new DimerCounter().all(bad), BAD_WEIGHT);
        }
        check.due("all(0)", new DimerCounter().all(0), 0);
        check.due("all(4)", new DimerCounter().all(4), 0);
    }

    private static void allOfNoWeightChangesNothing() {
        for (int bad : NO_WEIGHTS) {
            DimerCounter x = Boards.striped();
            x.all(bad);
            STRIPED.dueOf(check, "all(" + bad + ")", x);
        }
    }

    private static void forceRefusesPlaces() {
        for (int bad : NO_PLACES) {
            DimerCounter x = new DimerCounter();
            for (int s = 0; s < 16; s++) {
                check.due("force(" + s + ", " + bad + ")", x.force(s, bad), BAD_PLACE);
            }
        }
        check.due("force(0, 0)", new DimerCounter().force(0, 0), 1);
        check.due("force(15, 23)", new DimerCounter().force(15, 23), 1);
    }

    private static void forceRefusesSquares() {
        for (int bad : NO_SQUARES) {
            DimerCounter x = new DimerCounter();
            for (int p = 0; p < 24; p++) {
                check.due("force(" + bad + ", " + p + ")", x.force(bad, p), BAD_PLACE);
            }
        }
        check.due("force(0, 12)", new DimerCounter().force(0, 12), 1);
        check.due("force(15, 11)", new DimerCounter().force(15, 11), 1);
    }

    private static void forceRefusesSquaresNotCovered() {
        for (int s = 0; s < 16; s++) {
            for (int p = 0; p < 24; p++) {
                int answer = new DimerCounter().force(s, p);
                check.due("whether force(" + s + ", " + p + ") is refused", answer == BAD_PLACE,
                        !Boards.covers(p, s));
            }
        }
        // The neighbours of what a place covers, on which a slip by one would fall.
        check.due("force(2, 0), right of it", new DimerCounter().force(2, 0), BAD_PLACE);
        check.due("force(4, 2), the row's end does not go round", new DimerCounter().force(4, 2), BAD_PLACE);
        check.due("force(3, 3), the row's start does not go round", new DimerCounter().force(3, 3), BAD_PLACE);
        check.due("force(8, 12), below it", new DimerCounter().force(8, 12), BAD_PLACE);
        check.due("force(3, 23), the lowest row does not go round", new DimerCounter().force(3, 23), BAD_PLACE);
        check.due("force(12, 12), the uppermost row does not go round", new DimerCounter().force(12, 12),
                BAD_PLACE);
    }

    private static void forceRefusesBoth() {
        for (int place : NO_PLACES) {
            DimerCounter x = new DimerCounter();
            for (int s : new int[] {Integer.MIN_VALUE, -1, 16, 32, Integer.MAX_VALUE}) {
                check.due("force(" + s + ", " + place + ")", x.force(s, place), BAD_PLACE);
            }
        }
    }

    private static void forceOfNoPlaceChangesNothing() {
        for (int bad : NO_PLACES) {
            DimerCounter x = Boards.striped();
            for (int s = 0; s < 16; s++) {
                x.force(s, bad);
            }
            STRIPED.dueOf(check, "force(0 to 15, " + bad + ")", x);
        }
    }

    private static void forceOnNoSquareChangesNothing() {
        for (int bad : NO_SQUARES) {
            DimerCounter x = Boards.striped();
            for (int p = 0; p < 24; p++) {
                x.force(bad, p);
            }
            STRIPED.dueOf(check, "force(" + bad + ", 0 to 23)", x);
        }
    }

    private static void forceOnSquareNotCoveredChangesNothing() {
        for (int s = 0; s < 16; s++) {
            for (int p = 0; p < 24; p++) {
                if (!Boards.covers(p, s)) {
                    DimerCounter x = Boards.striped();
                    x.force(s, p);
                    STRIPED.dueOf(check, "force(" + s + ", " + p + ")", x);
                }
            }
        }
    }

    private static void placeIsTestedBeforeWeight() {
        for (int weight : NO_WEIGHTS) {
            check.due("weight(-1, " + weight + ")", new DimerCounter().weight(-1, weight), BAD_PLACE);
            check.due("weight(24, " + weight + ")", new DimerCounter().weight(24, weight), BAD_PLACE);
        }
        for (int place : NO_PLACES) {
            check.due("weight(" + place + ", -1)", new DimerCounter().weight(place, -1), BAD_PLACE);
            check.due("weight(" + place + ", 5)", new DimerCounter().weight(place, 5), BAD_PLACE);
            check.due("weight(" + place + ", least)", new DimerCounter().weight(place, Integer.MIN_VALUE),
                    BAD_PLACE);
            check.due("weight(" + place + ", greatest)", new DimerCounter().weight(place, Integer.MAX_VALUE),
                    BAD_PLACE);
        }
    }

    private static void bothWrongChangesNothing() {
        for (int place : NO_PLACES) {
            DimerCounter x = Boards.striped();
            for (int weight : new int[] {Integer.MIN_VALUE, -1, 5, Integer.MAX_VALUE}) {
                x.weight(place, weight);
            }
            STRIPED.dueOf(check, "weight(" + place + ", no weight)", x);
        }
    }
}
