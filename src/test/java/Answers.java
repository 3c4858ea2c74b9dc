/** Counts the answers that are not as due, and ends a test with the exit code that says so. */
final class Answers {
    /** One fault can spoil thousands of answers; the first ones tell enough. */
    private static final int MOST_PRINTED = 20;

    private int asked = 0;
    private int wrong = 0;
    private int printed = 0;

    void due(String call, long got, long want) {
        asked++;
        if (got != want) {
            wrong++;
            print(call + " answered " + got + ", due is " + want);
        }
    }

    void due(String call, boolean got, boolean want) {
        due(call, got ? 1L : 0L, want ? 1L : 0L);
    }

    /** Runs the test of one sentence of the document, and says whether the sentence holds. */
    void sentence(String text, Runnable test) {
        int askedBefore = asked;
        int wrongBefore = wrong;
        printed = 0;
        try {
            test.run();
        } catch (RuntimeException thrown) {
            due("a call that must never throw, " + thrown + ",", false, true);
        }
        due("a test of the sentence", asked > askedBefore, true);
        System.out.println((wrong == wrongBefore ? "holds:  " : "BROKEN: ") + text);
    }

    void end() {
        System.out.println(asked + " answers, " + wrong + " not as due");
        if (wrong != 0 || asked == 0) {
            System.exit(1);
        }
    }

    private void print(String line) {
        printed++;
        if (printed <= MOST_PRINTED) {
            System.out.println(line);
        } else if (printed == MOST_PRINTED + 1) {
            System.out.println(".. and more that are not as due ..");
        }
    }
}
