/** What the tests of the project share: counting and telling the answers that are not as due. */
final class Due {
    /** A fault that breaks everything would otherwise be told some hundred thousand times. */
    private static final int MOST_TOLD = 1000;

    private int asked = 0;
    private int wrong = 0;
    private String sentence = "";
    private int askedBefore = 0;

    /** Starts the test of one sentence of the document; a sentence of which nothing is asked is not tested, and so is wrong. */
    void sentence(String words) {
        endSentence();
        sentence = words;
        askedBefore = asked;
    }

    private void endSentence() {
        if (!sentence.isEmpty() && asked == askedBefore) {
            wrong++;
            System.out.println("nothing asked of: " + sentence);
        }
    }

    void is(String what, long got, long want) {
        asked++;
        if (got != want) {
            wrong++;
            tell(what + " answered " + got + ", due is " + want);
        }
    }

    private void tell(String fault) {
        if (wrong <= MOST_TOLD) {
            System.out.println(sentence.isEmpty() ? fault : "[" + sentence + "] " + fault);
        }
    }

    void is(String what, boolean got, boolean want) {
        is(what, got ? 1 : 0, want ? 1 : 0);
    }

    /** The five judgements in one word, a letter for each that holds: c(lean) o(rdered) s(ourced) n(apshot) r (serial). */
    void judged(String what, HistoryJudge h, String want) {
        is(what + ": clean()", h.clean(), want.contains("c"));
        is(what + ": ordered()", h.ordered(), want.contains("o"));
        is(what + ": sourced()", h.sourced(), want.contains("s"));
        is(what + ": snapshot()", h.snapshot(), want.contains("n"));
        is(what + ": serial()", h.serial(), want.contains("r"));
    }

    /** The first serial list, and -1 at the places around it. */
    void listed(String what, HistoryJudge h, int... want) {
        for (int k = 0; k < want.length; k++) {
            is(what + ": serialAt(" + k + ")", h.serialAt(k), want[k]);
        }
        int[] outside = {want.length, want.length + 1, 4, 5, 32, -1, -2, Integer.MAX_VALUE, Integer.MIN_VALUE};
        for (int k : outside) {
            is(what + ": serialAt(" + k + ")", h.serialAt(k), -1);
        }
    }

    void end() {
        endSentence();
        System.out.println(wrong == 0 ? "all " + asked + " answers are as due" : wrong + " of " + asked + " answers are not as due");
        if (wrong != 0 || asked == 0) {
            System.exit(1);
        }
    }
}
