/** Counts the answers that are not as due; each test ends by it. */
final class Due {
    private final String test;
    private String sentence = "";
    private int sentences;
    private int asked;
    private int askedOfSentence;
    private int wrong;

    Due(String test) {
        this.test = test;
    }

    /** The document's sentence that the answers from here on belong to. */
    void sentence(String words) {
        endSentence();
        sentence = "\"" + words + "\": ";
        sentences++;
        askedOfSentence = 0;
    }

    void is(String call, int got, int want) {
        asked++;
        askedOfSentence++;
        if (got != want) {
            wrong(call + " answered " + got + ", due is " + want);
        }
    }

    void yes(String call, boolean got) {
        is(call, got ? 1 : 0, 1);
    }

    void no(String call, boolean got) {
        is(call, got ? 1 : 0, 0);
    }

    void end() {
        endSentence();
        String of = sentences == 0 ? "" : " of " + sentences + " sentences";
        System.out.println(test + ": " + asked + " answers" + of + ", " + wrong + " not as due");
        if (wrong != 0 || asked == 0) {
            System.exit(1);
        }
    }

    private void endSentence() {
        if (sentences > 0 && askedOfSentence == 0) {
            wrong("nothing was asked");
        }
    }

    private void wrong(String what) {
        wrong++;
        if (wrong <= 20) {
            System.out.println(test + ": " + sentence + what);
        }
    }
}
