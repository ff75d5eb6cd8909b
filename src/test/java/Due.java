/** Counts the answers that are not as due, and prints each of them. */
final class Due {
    private final String title;
    private int asked = 0;
    private int wrong = 0;
    private String sentence = "";
    private int askedBefore = -1;

    Due(String title) {
        this.title = title;
    }

    /** What is asked from here on belongs to this sentence of the document. */
    void of(String next) {
        endSentence();
        sentence = next;
        askedBefore = asked;
    }

    /** A sentence of which nothing was asked has no test, so it counts as one that failed. */
    private void endSentence() {
        if (asked == askedBefore) {
            wrong++;
            System.out.println(title + ": [" + sentence + "] nothing was asked");
        }
    }

    void is(String call, long got, long want) {
        asked++;
        if (got != want) {
            wrong++;
            String place = sentence.isEmpty() ? title : title + ": [" + sentence + "]";
            System.out.println(place + ": " + call + " answered " + got + ", due is " + want);
        }
    }

    void is(String call, boolean got, boolean want) {
        is(call, got ? 1 : 0, want ? 1 : 0);
    }

    /** Ends the test: with exit code 1 if an answer was wrong, or if none was asked for. */
    void end() {
        endSentence();
        System.out.println(title + ": " + wrong + " wrong of " + asked + " answers");
        if (wrong != 0 || asked == 0) {
            System.exit(1);
        }
    }
}
