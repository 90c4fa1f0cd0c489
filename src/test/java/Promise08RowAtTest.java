import java.util.Arrays;
import java.util.stream.IntStream;

/** Promise 8: rowAt, and what the rows are. */
public final class Promise08RowAtTest {
    private static final Check CHECK = new Check("Promise08RowAtTest");

    public static void main(String[] args) {
        due(3, Coders.of(1, 0, 2, 0, 2, 0), Coders.of(5, 1, 3, 0, 2, 4));
        due(2, Coders.NOTHING, Coders.NOTHING);
        due(2, Coders.of(1), Coders.of(0));
        due(2, Coders.of(1, 0), Coders.of(1, 0));
        due(2, Coders.of(0, 1), Coders.of(0, 1));
        // The factor is read round, not on into the next one: 0 1 | 0 gives 0 1 0 1 .., 0 0 0 ..
        due(2, Coders.of(0, 1, 0), Coders.of(2, 0, 1));
        // Turns of one factor: 0 0 1 0 1 gives 00101, 01001, 01010, 10010, 10100.
        due(2, Coders.of(0, 0, 1, 0, 1), Coders.of(0, 3, 1, 4, 2));
        equalLetters();
        longAgreement();
        modelAgrees();
        CHECK.finish();
    }

    private static void due(int k, int[] block, int[] rows) {
        int[] code = {0, k, 1};
        LyndonTransform x = Coders.make(k, 24, block, code);
        String name = Arrays.toString(block);
        for (int r = 0; r < rows.length; r++) {
            CHECK.due(name + " rowAt(" + r + ")", x.rowAt(r), rows[r]);
        }
        for (int r = rows.length; r <= 26; r++) {
            CHECK.due(name + " rowAt(" + r + ")", x.rowAt(r), LyndonTransform.NONE);
        }
        for (int r : Coders.join(Coders.BELOW_ZERO, Coders.FAR_ABOVE)) {
            CHECK.due(name + " rowAt(" + r + ")", x.rowAt(r), LyndonTransform.NONE);
        }
        CHECK.due(name + " afterwards", Coders.state(x), Coders.state(k, 24, block, code));
    }

    // Words that differ nowhere stand in the order of their positions.
    private static void equalLetters() {
        for (int n = 1; n <= 24; n++) {
            due(3, Coders.repeat(2, n), IntStream.range(0, n).toArray());
        }
        int[] twelvePairs = IntStream.range(0, 24).map(i -> i % 2).toArray();
        int[] evenThenOdd = IntStream.range(0, 24).map(i -> i < 12 ? 2 * i : 2 * i - 23).toArray();
        due(2, twelvePairs, evenThenOdd);
    }

    // Evenly spread words agree with each other for as many letters as words of their lengths can.
    private static void longAgreement() {
        for (int l = 1; l <= 24; l++) {
            for (int ones = 0; ones <= l; ones++) {
                int[] first = Words.even(ones, l);
                for (int others = 0; others <= 24 - l; others++) {
                    int[] block = Coders.join(first, Words.even(others, 24 - l));
                    due(2, block, Words.model(2, block).rowPositions());
                }
            }
        }
    }

    private static void modelAgrees() {
        Dice dice = new Dice(8);
        for (int round = 0; round < 2000; round++) {
            int[] block = Words.any(dice, 2 + dice.below(15), dice.below(25));
            due(16, block, Words.model(16, block).rowPositions());
        }
    }
}
