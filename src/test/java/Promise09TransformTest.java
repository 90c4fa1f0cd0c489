import java.util.Arrays;
import java.util.stream.IntStream;

/** Promise 9: transform. */
public final class Promise09TransformTest {
    private static final Check CHECK = new Check("Promise09TransformTest");

    public static void main(String[] args) {
        due(3, Coders.of(1, 0, 2, 0, 2, 0), 4, Coders.of(0, 2, 2, 1, 0, 0));
        due(2, Coders.NOTHING, 0, Coders.NOTHING);
        due(2, Coders.of(1), 1, Coders.of(1));
        due(2, Coders.of(0, 1), 1, Coders.of(1, 0));
        due(2, Coders.of(1, 0), 2, Coders.of(0, 1));
        due(2, Coders.of(0, 1, 0), 2, Coders.of(0, 1, 0));
        due(2, Coders.of(0, 0, 1, 0, 1), 1, Coders.of(1, 1, 0, 0, 0));
        due(2, Coders.repeat(1, 24), 24, Coders.repeat(1, 24));
        // The rising word is one factor, and each letter is preceded by the one below it.
        int[] rising = IntStream.range(0, 16).toArray();
        due(16, rising, 1, Coders.join(Coders.of(15), Arrays.copyOf(rising, 15)));
        // The falling word is factors of length 1, which are their own last letters.
        due(16, IntStream.range(0, 16).map(i -> 15 - i).toArray(), 16, rising);
        modelAgrees();
        CHECK.finish();
    }

    private static void due(int k, int[] block, int answer, int[] after) {
        int[] code = {k, 0, 1, 1};
        LyndonTransform x = Coders.make(k, 24, block, code);
        String name = Arrays.toString(block);
        CHECK.due(name + " transform()", x.transform(), answer);
        CHECK.due(name + " after transform", Coders.state(x), Coders.state(k, 24, after, code));
    }

    private static void modelAgrees() {
        Dice dice = new Dice(9);
        for (int round = 0; round < 5000; round++) {
            int[] block = Words.any(dice, 2 + dice.below(15), dice.below(25));
            Model model = Words.model(16, block);
            due(16, block, model.transform(), model.block());
        }
    }
}
