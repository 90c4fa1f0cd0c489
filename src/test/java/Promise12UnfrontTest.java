import java.util.Arrays;

/** Promise 12: unfront. */
public final class Promise12UnfrontTest {
    private static final Check CHECK = new Check("Promise12UnfrontTest");

    public static void main(String[] args) {
        due(3, Coders.of(0, 2, 0, 2, 2, 0), Coders.of(0, 2, 2, 1, 0, 0));
        due(3, Coders.NOTHING, Coders.NOTHING);
        due(2, Coders.of(1, 1, 1, 0, 1), Coders.of(1, 0, 1, 1, 0));
        for (int k = 2; k <= 16; k++) {
            for (int place = 0; place < k; place++) {
                due(k, Coders.of(place), Coders.of(place));
            }
            // Always the last place: the list is gone through from its end, and then again.
            int[] after = new int[24];
            for (int i = 0; i < 24; i++) {
                after[i] = k - 1 - i % k;
            }
            due(k, Coders.repeat(k - 1, 24), after);
        }
        due(6, Coders.of(2, 5, 1, 2, 3), Coders.of(2, 5, 2, 0, 1));
        nothingIsCarriedOver();
        modelAgrees();
        undoesFront();
        CHECK.finish();
    }

    private static void due(int k, int[] block, int[] after) {
        int[] code = {0, 1, k};
        LyndonTransform x = Coders.make(k, 24, block, code);
        x.unfront();
        CHECK.due("K=" + k + " " + Arrays.toString(block) + " after unfront", Coders.state(x),
            Coders.state(k, 24, after, code));
    }

    private static void nothingIsCarriedOver() {
        LyndonTransform x = Coders.make(4, 8, Coders.of(3, 3), Coders.NOTHING);
        x.unfront();
        CHECK.due("first unfront", Coders.block(x), Coders.of(3, 2));
        x.unfront();
        CHECK.due("second unfront", Coders.block(x), Coders.of(3, 1));
        x.front();
        x.unfront();
        CHECK.due("unfront after front", Coders.block(x), Coders.of(3, 1));
    }

    private static void modelAgrees() {
        Dice dice = new Dice(12);
        for (int round = 0; round < 5000; round++) {
            int k = 2 + dice.below(15);
            int[] block = Words.any(dice, k, dice.below(25));
            Model model = Words.model(k, block);
            model.unfront();
            due(k, block, model.block());
        }
    }

    private static void undoesFront() {
        Dice dice = new Dice(112);
        for (int round = 0; round < 5000; round++) {
            int k = 2 + dice.below(15);
            int[] block = Words.any(dice, k, dice.below(25));
            LyndonTransform x = Coders.make(k, 24, block, Coders.NOTHING);
            x.front();
            x.unfront();
            CHECK.due("front, unfront", Coders.block(x), block);
        }
    }
}
