import java.util.Arrays;

/** Prints every answer that is not the one due, and ends the program with exit code 1 if there was one. */
final class Check {
    private static final int MOST_PRINTED = 20;

    private final String title;
    private long asked = 0;
    private long wrong = 0;

    Check(String title) {
        this.title = title;
    }

    void due(String what, int got, int want) {
        asked++;
        if (got != want) {
            tell(what, String.valueOf(got), String.valueOf(want));
        }
    }

    void due(String what, int[] got, int[] want) {
        asked++;
        if (!Arrays.equals(got, want)) {
            tell(what, Arrays.toString(got), Arrays.toString(want));
        }
    }

    void isTrue(String what, boolean holds) {
        asked++;
        if (!holds) {
            tell(what, "false", "true");
        }
    }

    private void tell(String what, String got, String want) {
        wrong++;
        if (wrong <= MOST_PRINTED) {
            System.out.println(title + ": " + what + " answered " + got + ", due is " + want);
        }
    }

    void finish() {
        System.out.println(title + ": " + asked + " answers, " + wrong + " not as due");
        // A test that asked nothing has shown nothing.
        if (wrong != 0 || asked == 0) {
            System.exit(1);
        }
    }
}
