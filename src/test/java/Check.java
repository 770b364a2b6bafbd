/** Counts answers and prints those that are not as due, with the document's sentence that asks for them. */
final class Check {
    private static final int PRINTED_MOST = 50;

    private String sentence = "";
    private int sentences;
    private int right;
    private int wrong;

    /** The sentence, in the document's words, that the answers from here on are due to. */
    void sentence(String text) {
        sentence = text;
        sentences++;
    }

    void due(String call, long got, long want) {
        if (got == want) {
            right++;
        } else {
            tell(call + " answered " + got + ", due is " + want);
        }
    }

    void yes(String call, boolean got) {
        due(call, got ? 1 : 0, 1);
    }

    void no(String call, boolean got) {
        due(call, got ? 1 : 0, 0);
    }

    void that(boolean holds, String what) {
        if (holds) {
            right++;
        } else {
            tell("does not hold: " + what);
        }
    }

    private void tell(String what) {
        wrong++;
        if (wrong <= PRINTED_MOST) {
            System.out.println((sentence.isEmpty() ? "" : "[" + sentence + "] ") + what);
        }
    }

    int wrong() {
        return wrong;
    }

    void end() {
        System.out.println(sentences + " sentences, " + right + " answers as due, " + wrong + " not");
        if (wrong != 0) {
            System.exit(1);
        }
    }
}
