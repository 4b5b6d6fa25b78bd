import java.util.Set;

/** Long mixed runs, each call held against BoardModel; a run keeps to the document's 512 calls. */
public final class ModelRunsTest {
    private static final int RUNS = 400;
    private static final int CALLS = 512;

    private static Check check;
    // A fixed sequence of numbers, so that every session sees the same runs.
    private static long seed = 20261115L;

    public static void main(String[] args) {
        check = new Check("ModelRunsTest");
        check.due("tilings of the model", new BoardModel().tilings().size(), 36);
        check.that("the model has the tilings of the document's words",
                Set.copyOf(new BoardModel().tilings()).equals(Set.copyOf(Boards.tilings())));
        everyPairOfPlaces();
        everyForce();
        for (int run = 0; run < RUNS; run++) {
            mixedRun(run);
        }
        check.end();
    }

    private static int below(int bound) {
        seed = seed * 6364136223846793005L + 1442695040888963407L;
        return (int) ((seed >>> 33) % bound);
    }

    /** Mostly a number in 0 to greatest, now and then one just or far outside. */
    private static int mostlyWithin(int greatest) {
        switch (below(24)) {
            case 0: return -1;
            case 1: return greatest + 1;
            case 2: return below(2) == 0 ? Integer.MIN_VALUE : Integer.MAX_VALUE;
            default: return below(greatest + 1);
        }
    }

    private static void everyPairOfPlaces() {
        BoardModel model = new BoardModel();
        int[] weights = new int[24];
        for (int p = 0; p < 24; p++) {
            weights[p] = 1 + p * 7 % 4;
            model.weight(p, weights[p]);
        }
        for (int a = -1; a <= 24; a++) {
            DimerCounter x = new DimerCounter();
            for (int p = 0; p < 24; p++) {
                x.weight(p, weights[p]);
            }
            for (int b = -1; b <= 24; b++) {
                check.due("totalWithBoth(" + a + ", " + b + ")", x.totalWithBoth(a, b), model.totalWithBoth(a, b));
            }
        }
    }

    private static void everyForce() {
        for (int s = -1; s <= 16; s++) {
            for (int p = -1; p <= 24; p++) {
                DimerCounter x = new DimerCounter();
                BoardModel model = new BoardModel();
                check.due("force(" + s + ", " + p + ")", x.force(s, p), model.force(s, p));
                sameWeights("force(" + s + ", " + p + ")", x, model);
            }
        }
    }

    private static void sameWeights(String after, DimerCounter x, BoardModel model) {
        for (int p = 0; p < 24; p++) {
            check.due("after " + after + ", weightOf(" + p + ")", x.weightOf(p), model.weights[p]);
        }
    }

    private static void mixedRun(int run) {
        DimerCounter x = new DimerCounter();
        BoardModel model = new BoardModel();
        // Some runs hardly change, so that few zeros pile up; others change all the time.
        int changing = 2 + below(12);
        for (int call = 0; call < CALLS - 24; call++) {
            String where = "run " + run + ", call " + call + ": ";
            if (below(16) < changing) {
                change(where, x, model);
            } else {
                ask(where, x, model);
            }
        }
        sameWeights("run " + run, x, model);
    }

    private static void change(String where, DimerCounter x, BoardModel model) {
        int kind = below(32);
        int place = mostlyWithin(23);
        int weight = mostlyWithin(4);
        if (kind < 3) {
            x.turn();
            model.turn();
        } else if (kind < 5) {
            check.due(where + "all(" + weight + ")", x.all(weight), model.all(weight));
        } else if (kind < 10) {
            int s = mostlyWithin(15);
            check.due(where + "force(" + s + ", " + place + ")", x.force(s, place), model.force(s, place));
        } else {
            check.due(where + "weight(" + place + ", " + weight + ")", x.weight(place, weight),
                    model.weight(place, weight));
        }
    }

    private static void ask(String where, DimerCounter x, BoardModel model) {
        int place = mostlyWithin(23);
        int other = mostlyWithin(23);
        switch (below(8)) {
            case 0: check.due(where + "weightOf(" + place + ")", x.weightOf(place), model.weightOf(place)); break;
            case 1: check.due(where + "total()", x.total(), model.total()); break;
            case 2: check.due(where + "totalWith(" + place + ")", x.totalWith(place), model.totalWith(place)); break;
            case 3: check.due(where + "totalWithBoth(" + place + ", " + other + ")",
                    x.totalWithBoth(place, other), model.totalWithBoth(place, other)); break;
            case 4: check.due(where + "possible()", x.possible(), model.possible()); break;
            case 5: check.due(where + "canUse(" + place + ")", x.canUse(place), model.canUse(place)); break;
            case 6: check.due(where + "settled()", x.settled(), model.settled()); break;
            default: check.due(where + "acrossTotal()", x.acrossTotal(), model.acrossTotal()); break;
        }
    }
}
