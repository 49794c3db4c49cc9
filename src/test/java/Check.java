/** Compares answers with those that are due, tells the wrong ones, and ends a test program. */
final class Check {
    private final String test;
    private String sentence = "";
    private int lookedBefore;
    private int sentences;
    private int looked;
    private int wrong;

    Check(String test) {
        this.test = test;
    }

    /** The sentence of the document that the answers from here on are about. */
    void says(String words) {
        endSentence();
        sentence = words;
        sentences++;
        lookedBefore = looked;
    }

    private void endSentence() {
        // A sentence that nothing was held against would only seem to be tested.
        if (sentences != 0 && looked == lookedBefore) {
            wrong++;
            System.out.println(test + ": nothing was looked at for \"" + sentence + "\"");
        }
    }

    private void tell(String what) {
        String about = sentence.isEmpty() ? "" : "\"" + sentence + "\": ";
        System.out.println(test + ": " + about + what);
    }

    void due(String what, long got, long want) {
        looked++;
        if (got != want) {
            wrong++;
            tell(what + " answered " + got + ", due is " + want);
        }
    }

    void due(String what, boolean got, boolean want) {
        due(what, got ? 1 : 0, want ? 1 : 0);
    }

    void due(String what, String got, String want) {
        looked++;
        if (!got.equals(want)) {
            wrong++;
            tell(what + " answered\n  " + got + "\ndue is\n  " + want);
        }
    }

    int wrongSoFar() {
        return wrong;
    }

    void finish() {
        endSentence();
        String about = sentences == 0 ? "" : sentences + " sentences, ";
        System.out.println(test + ": " + about + looked + " answers, " + wrong + " wrong");
        if (wrong != 0 || looked == 0) {
            System.exit(1);
        }
    }
}
