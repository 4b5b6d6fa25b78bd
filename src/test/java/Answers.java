import java.util.LinkedHashMap;
import java.util.Map;
import java.util.function.Supplier;
import java.util.function.ToLongFunction;

/**
 * What a board answers to the questions over all places. Each answer is taken from an object of
 * its own, as that object's first question: so a question that changes something is seen, too.
 */
final class Answers {
    private static final Map<String, ToLongFunction<DimerCounter>> QUESTIONS = questions();

    private final Map<String, Long> answers = new LinkedHashMap<>();

    Answers(Supplier<DimerCounter> board) {
        QUESTIONS.forEach((name, question) -> answers.put(name, question.applyAsLong(board.get())));
    }

    private static Map<String, ToLongFunction<DimerCounter>> questions() {
        Map<String, ToLongFunction<DimerCounter>> all = new LinkedHashMap<>();
        for (int p = 0; p < Boards.PLACES; p++) {
            int place = p;
            all.put("weightOf(" + p + ")", x -> x.weightOf(place));
        }
        for (int p = 0; p < Boards.PLACES; p++) {
            int place = p;
            all.put("totalWith(" + p + ")", x -> x.totalWith(place));
            all.put("totalWithBoth(" + p + ", " + (23 - p) + ")", x -> x.totalWithBoth(place, 23 - place));
            all.put("canUse(" + p + ")", x -> x.canUse(place) ? 1 : 0);
        }
        all.put("total()", DimerCounter::total);
        all.put("possible()", DimerCounter::possible);
        all.put("settled()", DimerCounter::settled);
        all.put("acrossTotal()", DimerCounter::acrossTotal);
        return all;
    }

    /** Asks x all the questions, which are 100 calls; its answers must be these. */
    void dueOf(Check check, String after, DimerCounter x) {
        QUESTIONS.forEach((name, question) ->
                check.due("after " + after + ": " + name, question.applyAsLong(x), answers.get(name)));
    }
}
