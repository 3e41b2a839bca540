/** Counts the answers that are not due, and names the sentence of the document that each breaks. */
final class Report {
    private static final int MOST_LINES = 60;

    private String sentence = null;
    private int checksOfSentence = 0;
    private int cases = 0;
    private int checks = 0;
    private int wrong = 0;

    /** What is checked from here on is what these words of the document ask for. */
    void sentence(String where, String words) {
        closeSentence();
        sentence = where + ", \"" + words + "\"";
        checksOfSentence = 0;
        cases++;
    }

    void due(String call, boolean got, boolean want) {
        due(call, got ? "true" : "false", want ? "true" : "false");
    }

    void due(String call, int got, int want) {
        due(call, Integer.toString(got), Integer.toString(want));
    }

    void due(String call, String got, String want) {
        checks++;
        checksOfSentence++;
        if (!got.equals(want)) {
            fail(call + " answered " + got + ", due is " + want);
        }
    }

    /**
     * Runs all tests and ends with exit code 1 if an answer was not due. A test that can't go on
     * throws, and is told with the sentence that it was at.
     */
    void runAll(Runnable... tests) {
        for (Runnable test : tests) {
            try {
                test.run();
            } catch (RuntimeException e) {
                fail("the test stopped: " + e);
                checksOfSentence++;
            }
        }
        closeSentence();
        System.out.println(cases + " cases, " + checks + " answers, " + wrong + " not as due");
        if (wrong != 0) {
            System.exit(1);
        }
    }

    private void closeSentence() {
        if (sentence != null && checksOfSentence == 0) {
            fail("nothing is checked");
        }
    }

    private void fail(String what) {
        wrong++;
        if (wrong <= MOST_LINES) {
            System.out.println(sentence + ": " + what);
        }
    }
}
