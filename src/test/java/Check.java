/** Counts wrong answers for one test, prints each, and ends the program with 1 if there was one. */
final class Check {
    private final String test;
    private String part = "";
    private int checks = 0;
    private int wrong = 0;

    Check(String test) {
        this.test = test;
    }

    /** Runs the test of one sentence; what is wrong there is printed with the sentence. */
    void sentence(String heading, String sentence, Runnable body) {
        int checksBefore = checks;
        part = heading + ", \"" + sentence + "\": ";
        try {
            body.run();
        } catch (RuntimeException e) {
            // Told as one more wrong answer, so that the sentences after it are still tested.
            that("no call throws, but one threw " + e, false);
        }
        that("something is checked", checks > checksBefore);
        part = "";
    }

    void due(String what, long got, long want) {
        checks++;
        if (got != want) {
            wrong++;
            System.out.println(test + ": " + part + what + " answered " + got + ", due is " + want);
        }
    }

    void due(String what, boolean got, boolean want) {
        due(what, got ? 1L : 0L, want ? 1L : 0L);
    }

    void that(String what, boolean holds) {
        checks++;
        if (!holds) {
            wrong++;
            System.out.println(test + ": " + part + "does not hold: " + what);
        }
    }

    void end() {
        System.out.println(test + ": " + checks + " checks, " + wrong + " wrong");
        if (wrong != 0 || checks == 0) {
            System.exit(1);
        }
    }
}
