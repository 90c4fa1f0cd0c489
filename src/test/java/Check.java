import java.util.Arrays;

/** Prints every answer that is not the one due, and ends the program with exit code 1 if there was one. */
final class Check {
    private static final int MOST_PRINTED_OF_ONE_SENTENCE = 10;

    private final String title;
    private String sentence = "";
    private long sentences = 0;
    private long askedBefore = 0;
    private long wrongBefore = 0;
    private long asked = 0;
    private long wrong = 0;

    Check(String title) {
        this.title = title;
    }

    /** What is asked from here on shows whether this sentence of the document holds. */
    void sentence(String words) {
        mustHaveAsked();
        sentence = words;
        sentences++;
        askedBefore = asked;
        wrongBefore = wrong;
    }

    void due(String what, int got, int want) {
        asked++;
        if (got != want) {
            tell(what, String.valueOf(got), String.valueOf(want));
        }
    }

    void due(String what, int[] got, int[] want) {
        asked++;
        if (!Arrays.equals(got, want)) {
            tell(what, Arrays.toString(got), Arrays.toString(want));
        }
    }

    void isTrue(String what, boolean holds) {
        asked++;
        if (!holds) {
            tell(what, "false", "true");
        }
    }

    private void tell(String what, String got, String want) {
        wrong++;
        if (wrong - wrongBefore <= MOST_PRINTED_OF_ONE_SENTENCE) {
            String place = sentence.isEmpty() ? "" : " '" + sentence + "'";
            System.out.println(title + place + ": " + what + " answered " + got + ", due is " + want);
        }
    }

    // A test that asked nothing has shown nothing.
    private void mustHaveAsked() {
        if (sentences > 0 && asked == askedBefore) {
            wrong++;
            System.out.println(title + " '" + sentence + "': nothing was asked");
        }
    }

    void finish() {
        mustHaveAsked();
        String of = sentences > 0 ? sentences + " sentences, " : "";
        System.out.println(title + ": " + of + asked + " answers, " + wrong + " not as due");
        if (wrong != 0 || asked == 0) {
            System.exit(1);
        }
    }
}
