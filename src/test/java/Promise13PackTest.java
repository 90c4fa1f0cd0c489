import java.util.Arrays;

/** Promise 13: pack. */
public final class Promise13PackTest {
    private static final Check CHECK = new Check("Promise13PackTest");

    public static void main(String[] args) {
        for (int k = 2; k <= 16; k++) {
            due(k, Coders.NOTHING, Coders.NOTHING);
            for (int s = 1; s < k; s++) {
                due(k, Coders.repeat(s, 24), Coders.repeat(s + 1, 24));
            }
        }
        for (int z = 1; z <= 24; z++) {
            due(2, Coders.repeat(0, z), Numerals.TOKENS[z]);
        }
        for (int z = 1; z <= 22; z++) {
            int[] block = Coders.join(Coders.of(15), Coders.repeat(0, z), Coders.of(1));
            due(16, block, Coders.join(Coders.of(16), Numerals.TOKENS[z], Coders.of(2)));
        }
        // Runs parted by one symbol are two numerals.
        due(3, Coders.of(0, 0, 1, 0, 0, 0, 2, 2, 0), Coders.of(1, 2, 0, 0, 3, 3, 0));
        due(3, Coders.of(0, 2, 0, 2, 2, 0), Coders.of(0, 3, 0, 3, 3, 0));
        packTwice();
        modelAgrees();
        CHECK.finish();
    }

    private static void due(int k, int[] block, int[] tokens) {
        String name = "K=" + k + " " + Arrays.toString(block);
        LyndonTransform x = Coders.make(k, 24, block, Coders.NOTHING);
        CHECK.due(name + " pack()", x.pack(), tokens.length);
        CHECK.due(name + " after pack", Coders.state(x), Coders.state(k, 24, block, tokens));
        // Whatever the code was, a full one included.
        x = Coders.make(k, 24, block, Coders.repeat(k, 24));
        CHECK.due(name + " pack() over a full code", x.pack(), tokens.length);
        CHECK.due(name + " after pack over a full code", Coders.state(x), Coders.state(k, 24, block, tokens));
    }

    private static void packTwice() {
        LyndonTransform x = Coders.make(2, 8, Coders.of(0, 0, 0, 1), Coders.of(2));
        x.pack();
        CHECK.due("pack a second time", x.pack(), 3);
        CHECK.due("code afterwards", Coders.code(x), Coders.of(0, 0, 2));
        CHECK.due("putToken after pack", x.putToken(1), LyndonTransform.OK);
        CHECK.due("code with one more", Coders.code(x), Coders.of(0, 0, 2, 1));
        x.clear();
        CHECK.due("pack of an empty block", x.pack(), 0);
        CHECK.due("code of an empty block", Coders.code(x), Coders.NOTHING);
    }

    private static void modelAgrees() {
        Dice dice = new Dice(13);
        for (int round = 0; round < 5000; round++) {
            int k = 2 + dice.below(15);
            int[] block = Words.any(dice, dice.oneIn(2) ? 2 : k, dice.below(25));
            Model model = Words.model(k, block);
            model.pack();
            due(k, block, java.util.stream.IntStream.range(0, model.codeLength()).map(model::codeAt).toArray());
        }
    }
}
