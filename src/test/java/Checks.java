/** Counts the answers of one test that are not the ones that are due. */
final class Checks {
    private int wrong = 0;
    private int asked = 0;
    private String words = "";
    private int askedBefore = -1;

    /** From here on the answers are about these words of the document. */
    void about(String next) {
        endWords();
        words = "'" + next + "': ";
        askedBefore = asked;
    }

    /** Words about which nothing is asked are not tested. */
    private void endWords() {
        if (asked == askedBefore) {
            tellWrong("nothing was asked");
        }
    }

    private void tellWrong(String what) {
        wrong++;
        System.out.println(words + what);
    }

    void due(String call, long got, long want) {
        asked++;
        if (got != want) {
            tellWrong(call + " answered " + got + ", due is " + want);
        }
    }

    void due(String call, boolean got, boolean want) {
        due(call, got ? 1 : 0, want ? 1 : 0);
    }

    void due(String call, String got, String want) {
        asked++;
        if (!got.equals(want)) {
            tellWrong(call + " answered " + got + ", due is " + want);
        }
    }

    int wrong() {
        return wrong;
    }

    /** Ends the test: with exit code 1 if an answer was wrong, or if nothing was asked. */
    void end() {
        endWords();
        if (wrong != 0 || asked == 0) {
            System.out.println(wrong + " of " + asked + " answers are not as due");
            System.exit(1);
        }
    }
}
