import java.util.Arrays;
import java.util.stream.IntStream;

/** Promise 10: invert. */
public final class Promise10InvertTest {
    private static final Check CHECK = new Check("Promise10InvertTest");

    public static void main(String[] args) {
        due(3, Coders.of(0, 2, 2, 1, 0, 0), 4, Coders.of(1, 0, 2, 0, 2, 0));
        due(2, Coders.NOTHING, 0, Coders.NOTHING);
        due(2, Coders.of(1), 1, Coders.of(1));
        due(2, Coders.of(1, 0), 1, Coders.of(0, 1));
        due(2, Coders.of(0, 1), 2, Coders.of(1, 0));
        due(2, Coders.repeat(0, 24), 24, Coders.repeat(0, 24));
        // The letters 2 0 1 give g = 2 0 1, one cycle 0 2 1, met as 2 1 0 and written 0 1 2.
        due(3, Coders.of(2, 0, 1), 1, Coders.of(0, 1, 2));
        // In a sorted block every position is a cycle by itself.
        due(16, IntStream.range(0, 16).toArray(), 16, IntStream.range(0, 16).map(i -> 15 - i).toArray());
        modelAgrees();
        undoesTransform();
        isUndoneByTransform();
        CHECK.finish();
    }

    private static void due(int k, int[] block, int answer, int[] after) {
        int[] code = {1, k, 0};
        LyndonTransform x = Coders.make(k, 24, block, code);
        String name = Arrays.toString(block);
        CHECK.due(name + " invert()", x.invert(), answer);
        CHECK.due(name + " after invert", Coders.state(x), Coders.state(k, 24, after, code));
    }

    private static void modelAgrees() {
        Dice dice = new Dice(10);
        for (int round = 0; round < 5000; round++) {
            int[] block = Words.any(dice, 2 + dice.below(15), dice.below(25));
            Model model = Words.model(16, block);
            due(16, block, model.invert(), model.block());
        }
    }

    private static void undoesTransform() {
        Dice dice = new Dice(110);
        for (int round = 0; round < 5000; round++) {
            int[] block = Words.any(dice, 2 + dice.below(15), dice.below(25));
            LyndonTransform x = Coders.make(16, 24, block, Coders.NOTHING);
            int factors = x.transform();
            CHECK.due("cycles are as many as the factors were", x.invert(), factors);
            CHECK.due("transform, invert", Coders.block(x), block);
        }
    }

    // Not told by the document, but it follows: transform and invert are one-to-one on the blocks.
    private static void isUndoneByTransform() {
        Dice dice = new Dice(210);
        for (int round = 0; round < 2000; round++) {
            int[] block = Words.any(dice, 2 + dice.below(15), dice.below(25));
            LyndonTransform x = Coders.make(16, 24, block, Coders.NOTHING);
            x.invert();
            x.transform();
            CHECK.due("invert, transform", Coders.block(x), block);
        }
    }
}
