import java.util.Arrays;
import java.util.stream.IntStream;

/** Promise 11: front. */
public final class Promise11FrontTest {
    private static final Check CHECK = new Check("Promise11FrontTest");

    public static void main(String[] args) {
        due(3, Coders.of(0, 2, 2, 1, 0, 0), Coders.of(0, 2, 0, 2, 2, 0));
        due(3, Coders.NOTHING, Coders.NOTHING);
        due(2, Coders.of(1, 1, 0, 1, 0, 0, 1, 1), Coders.of(1, 0, 1, 1, 1, 0, 1, 0));
        // The first sight of a symbol tells the order of the list that the call begins with.
        for (int k = 2; k <= 16; k++) {
            for (int s = 0; s < k; s++) {
                due(k, Coders.of(s), Coders.of(s));
            }
            due(k, IntStream.range(0, k).toArray(), IntStream.range(0, k).toArray());
            due(k, Coders.of(k - 1, k - 1, 0, k - 1), Coders.of(k - 1, 0, 1, 1));
        }
        // Symbols beyond the moved one keep their places.
        due(6, Coders.of(2, 5, 4, 3), Coders.of(2, 5, 5, 5));
        due(6, Coders.of(2, 3, 4, 5), Coders.of(2, 3, 4, 5));
        due(6, Coders.of(2, 0, 1, 2), Coders.of(2, 1, 2, 2));
        due(2, Coders.repeat(1, 24), Coders.join(Coders.of(1), Coders.repeat(0, 23)));
        nothingIsCarriedOver();
        modelAgrees();
        CHECK.finish();
    }

    private static void due(int k, int[] block, int[] after) {
        int[] code = {k, 1, 0};
        LyndonTransform x = Coders.make(k, 24, block, code);
        x.front();
        CHECK.due("K=" + k + " " + Arrays.toString(block) + " after front", Coders.state(x),
            Coders.state(k, 24, after, code));
    }

    private static void nothingIsCarriedOver() {
        LyndonTransform x = Coders.make(4, 8, Coders.of(3, 2), Coders.NOTHING);
        x.front();
        CHECK.due("first front", Coders.block(x), Coders.of(3, 3));
        x.front();
        CHECK.due("second front", Coders.block(x), Coders.of(3, 0));
        x.unfront();
        x.unfront();
        x.front();
        CHECK.due("front after unfront", Coders.block(x), Coders.of(3, 3));
    }

    private static void modelAgrees() {
        Dice dice = new Dice(11);
        for (int round = 0; round < 5000; round++) {
            int k = 2 + dice.below(15);
            int[] block = Words.any(dice, k, dice.below(25));
            Model model = Words.model(k, block);
            model.front();
            due(k, block, model.block());
        }
    }
}
