import java.util.Arrays;

/** Promise 10: invert. */
public final class Promise10InvertTest {
    private static final Check CHECK = new Check("Promise10InvertTest");

    public static void main(String[] args) {
        example();
        whateverBlockItIs();
        equalLettersByPosition();
        cycleByItself();
        reverseOrder();
        orderOfTheCycles();
        numberOfCycles();
        emptyBlock();
        lengthAndCodeStay();
        undoesTransform();
        isUndoneByTransform();
        CHECK.finish();
    }

    private static void due(int k, int[] block, int answer, int... after) {
        int[] code = {1, k, 0};
        LyndonTransform x = Coders.make(k, 24, block, code);
        String name = Arrays.toString(block);
        CHECK.due(name + " invert()", x.invert(), answer);
        CHECK.due(name + " after invert", Coders.state(x), Coders.state(k, 24, after, code));
    }

    private static void example() {
        CHECK.sentence("Example: K = 3, block 0 2 2 1 0 0. invert() answers 4 and the block becomes 1 0 2 0 2 0.");
        due(3, Coders.of(0, 2, 2, 1, 0, 0), 4, 1, 0, 2, 0, 2, 0);
    }

    private static void whateverBlockItIs() {
        CHECK.sentence("invert() replaces the block, whatever block it is, by a block of the same length n");
        Dice dice = new Dice(10);
        for (int round = 0; round < 5000; round++) {
            int[] block = Words.any(dice, 2 + dice.below(15), dice.below(25));
            Model model = Words.model(16, block);
            due(16, block, model.invert(), model.block());
        }
        States.eachLimits((k, c) -> {
            for (int[] block : States.blocks(k, c)) {
                LyndonTransform x = Coders.make(k, c, block, Coders.NOTHING);
                Model model = Model.with(k, c, block, Coders.NOTHING);
                CHECK.due("invert()", x.invert(), model.invert());
                CHECK.due("after invert", Coders.state(x), model.state());
            }
        });
        LyndonTransform x = Coders.make(4, 24, States.mixed(4, 24), Coders.NOTHING);
        Model model = Model.with(4, 24, States.mixed(4, 24), Coders.NOTHING);
        for (int round = 0; round < 500; round++) {
            CHECK.due("invert() number " + round, x.invert(), model.invert());
            CHECK.due("block after number " + round, Coders.block(x), model.block());
        }
    }

    private static void equalLettersByPosition() {
        CHECK.sentence("or with b[j] = b[i] and j < i");
        // g = 2 0 3 1: one cycle 0 2 3 1, met as 1 1 0 0.
        due(2, Coders.of(1, 0, 1, 0), 1, 0, 0, 1, 1);
        // g = 2 3 0 1: cycles 0 2 and 1 3, each met as 1 0.
        due(2, Coders.of(1, 1, 0, 0), 2, 0, 1, 0, 1);
        for (int n = 1; n <= 24; n++) {
            due(2, Coders.repeat(1, n), n, Coders.repeat(1, n));
        }
    }

    private static void cycleByItself() {
        CHECK.sentence("A position with g(i) = i is a cycle by itself.");
        for (int s = 0; s < 16; s++) {
            due(16, Coders.of(s), 1, s);
        }
        // In a sorted block every position is one.
        due(16, Coders.range(0, 15), 16, Coders.reversed(Coders.range(0, 15)));
        due(2, Coders.join(Coders.repeat(0, 12), Coders.repeat(1, 12)), 24,
            Coders.join(Coders.repeat(1, 12), Coders.repeat(0, 12)));
        // At the beginning, in the midst and at the end, beside a cycle of two.
        due(3, Coders.of(0, 2, 1), 2, 1, 2, 0);
        due(3, Coders.of(2, 1, 0), 2, 1, 0, 2);
        due(3, Coders.of(1, 0, 2), 2, 2, 0, 1);
    }

    private static void reverseOrder() {
        CHECK.sentence("The word of the cycle is b[i(l-1)] .. b[i2] b[i1] b[i0]: the letters met, in reverse order.");
        due(2, Coders.of(1, 0), 1, 0, 1);
        // g = 2 0 1: one cycle 0 2 1, met as 2 1 0.
        due(3, Coders.of(2, 0, 1), 1, 0, 1, 2);
        // g = 1 2 0: one cycle 0 1 2, met as 1 2 0.
        due(3, Coders.of(1, 2, 0), 1, 0, 2, 1);
        // One cycle through a full block.
        due(2, Coders.join(Coders.of(1), Coders.repeat(0, 23)), 1, Coders.join(Coders.repeat(0, 23), Coders.of(1)));
    }

    private static void orderOfTheCycles() {
        CHECK.sentence("the cycle with the GREATEST smallest member first, the others by falling smallest member, "
            + "the cycle that contains position 0 last");
        due(2, Coders.of(0, 1), 2, 1, 0);
        // Cycles (0 1), (2), (3 4): smallest members 0, 2, 3.
        due(5, Coders.of(1, 0, 2, 4, 3), 3, 3, 4, 2, 0, 1);
        // Cycles (0 5), (1 2), (3 4): the greatest member of all lies in the cycle that comes last.
        due(6, Coders.of(5, 2, 1, 4, 3, 0), 3, 3, 4, 1, 2, 0, 5);
        // Cycles (0), (1 5 4), (2 3): a longer cycle doesn't come earlier.
        due(6, Coders.of(0, 5, 3, 2, 1, 4), 3, 2, 3, 1, 4, 5, 0);
    }

    private static void numberOfCycles() {
        CHECK.sentence("It answers the number of cycles.");
        // 2 c members in c cycles of two, the others by themselves.
        for (int n = 1; n <= 16; n++) {
            for (int pairs = 0; 2 * pairs <= n; pairs++) {
                int[] block = Coders.range(0, n - 1);
                for (int i = 0; i < pairs; i++) {
                    block[2 * i] = 2 * i + 1;
                    block[2 * i + 1] = 2 * i;
                }
                CHECK.due(Arrays.toString(block) + " invert()", Coders.make(16, 16, block, Coders.NOTHING).invert(),
                    n - pairs);
            }
        }
    }

    private static void emptyBlock() {
        CHECK.sentence("On an empty block it answers 0 and the block stays empty.");
        States.eachLimits((k, c) -> {
            for (int[] code : States.codes(k, c)) {
                LyndonTransform x = Coders.make(k, c, Coders.repeat(1, c), code);
                x.invert();
                x.clear();
                CHECK.due("invert()", x.invert(), 0);
                CHECK.due("state", Coders.state(x), Coders.state(k, c, Coders.NOTHING, code));
            }
        });
    }

    private static void lengthAndCodeStay() {
        CHECK.sentence("The length n and the code stay.");
        States.each((k, c, block, code) -> {
            LyndonTransform x = Coders.make(k, c, block, code);
            x.invert();
            CHECK.due("length", x.length(), block.length);
            CHECK.due("code", Coders.code(x), code);
        });
        States.eachLimits((k, c) -> {
            for (int n = 0; n <= c; n++) {
                LyndonTransform x = Coders.make(k, c, States.mixed(k, n), Coders.NOTHING);
                x.invert();
                CHECK.due("length", x.length(), n);
                CHECK.due("codeLength", x.codeLength(), 0);
            }
        });
    }

    private static void undoesTransform() {
        CHECK.sentence("invert() undoes transform(): called on the block that transform() left, it brings back the "
            + "block from before.");
        Dice dice = new Dice(110);
        for (int round = 0; round < 5000; round++) {
            int k = 2 + dice.below(15);
            int c = 8 + dice.below(17);
            thereAndBack(k, c, Words.any(dice, k, dice.below(c + 1)));
        }
        States.eachLimits((k, c) -> {
            for (int[] block : States.blocks(k, c)) {
                thereAndBack(k, c, block);
            }
        });
    }

    private static void thereAndBack(int k, int c, int[] block) {
        LyndonTransform x = Coders.make(k, c, block, Coders.NOTHING);
        int factors = x.transform();
        CHECK.due("cycles are as many as the factors were", x.invert(), factors);
        CHECK.due("transform, invert", Coders.block(x), block);
    }

    private static void isUndoneByTransform() {
        CHECK.sentence("(not told by the document, but it follows: both are one-to-one on the blocks)");
        Dice dice = new Dice(210);
        for (int round = 0; round < 2000; round++) {
            int[] block = Words.any(dice, 2 + dice.below(15), dice.below(25));
            LyndonTransform x = Coders.make(16, 24, block, Coders.NOTHING);
            x.invert();
            x.transform();
            CHECK.due("invert, transform", Coders.block(x), block);
        }
    }
}
