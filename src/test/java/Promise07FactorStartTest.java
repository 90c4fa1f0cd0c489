/** Promise 7: factorStart, and what the factors are. */
public final class Promise07FactorStartTest {
    private static final Check CHECK = new Check("Promise07FactorStartTest");

    public static void main(String[] args) {
        due(3, Coders.of(1, 0, 2, 0, 2, 0), Coders.of(0, 1, 3, 5));
        due(2, Coders.NOTHING, Coders.NOTHING);
        due(2, Coders.of(0), Coders.of(0));
        due(2, Coders.of(1), Coders.of(0));
        due(2, Coders.of(0, 1), Coders.of(0));
        due(2, Coders.of(1, 0), Coders.of(0, 1));
        due(2, Coders.of(0, 0), Coders.of(0, 1));
        due(2, Coders.of(0, 0, 1, 0, 1, 0, 0, 1, 0, 1), Coders.of(0, 5));
        due(2, Coders.of(0, 0, 1, 0, 1, 0, 0, 1, 0), Coders.of(0, 5, 8));
        due(2, Coders.of(0, 1, 0, 1, 0, 1, 1), Coders.of(0));
        due(2, Coders.of(0, 1, 0, 1, 0, 1, 0), Coders.of(0, 2, 4, 6));
        due(2, Coders.of(0, 1, 1, 0, 1, 0, 0), Coders.of(0, 3, 5, 6));
        due(16, Coders.of(15, 3, 7, 3, 7, 3, 7, 2, 15, 2, 14, 2, 14, 0, 0, 9, 0, 0, 9, 0, 0, 0, 8, 0),
            Coders.of(0, 1, 3, 5, 7, 9, 11, 13, 16, 19, 23));
        // 2 15 is greater than 2 14, so they stay two factors; turned round they are one.
        due(16, Coders.of(2, 15, 2, 14), Coders.of(0, 2));
        due(16, Coders.of(2, 14, 2, 15), Coders.of(0));
        equalLetters();
        risingAndFalling();
        modelAgrees();
        CHECK.finish();
    }

    private static void due(int k, int[] block, int[] starts) {
        int[] code = {k, 1};
        LyndonTransform x = Coders.make(k, 24, block, code);
        String name = java.util.Arrays.toString(block);
        for (int j = 0; j < starts.length; j++) {
            CHECK.due(name + " factorStart(" + j + ")", x.factorStart(j), starts[j]);
        }
        for (int j = starts.length; j <= 26; j++) {
            CHECK.due(name + " factorStart(" + j + ")", x.factorStart(j), LyndonTransform.NONE);
        }
        for (int j : Coders.join(Coders.BELOW_ZERO, Coders.FAR_ABOVE)) {
            CHECK.due(name + " factorStart(" + j + ")", x.factorStart(j), LyndonTransform.NONE);
        }
        CHECK.due(name + " afterwards", Coders.state(x), Coders.state(k, 24, block, code));
    }

    private static void equalLetters() {
        for (int n = 1; n <= 24; n++) {
            due(5, Coders.repeat(4, n), java.util.stream.IntStream.range(0, n).toArray());
        }
    }

    private static void risingAndFalling() {
        int[] rising = java.util.stream.IntStream.range(0, 16).toArray();
        int[] falling = java.util.stream.IntStream.range(0, 16).map(i -> 15 - i).toArray();
        due(16, rising, Coders.of(0));
        due(16, falling, rising);
        due(2, Coders.join(Coders.repeat(0, 23), Coders.of(1)), Coders.of(0));
        due(2, Coders.join(Coders.of(0), Coders.repeat(1, 23)), Coders.of(0));
    }

    private static void modelAgrees() {
        Dice dice = new Dice(7);
        for (int round = 0; round < 3000; round++) {
            int[] block = Words.any(dice, 2 + dice.below(15), dice.below(25));
            due(16, block, Words.model(16, block).factorStarts());
        }
    }
}
