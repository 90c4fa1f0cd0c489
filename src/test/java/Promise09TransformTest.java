import java.util.Arrays;

/** Promise 9: transform. */
public final class Promise09TransformTest {
    private static final Check CHECK = new Check("Promise09TransformTest");

    public static void main(String[] args) {
        example();
        letterBefore();
        startOfAFactor();
        factorOfLengthOne();
        allOfTheOldBlock();
        factorsOfTheOldBlock();
        emptyBlock();
        lengthAndCodeStay();
        CHECK.finish();
    }

    private static void due(int k, int[] block, int answer, int... after) {
        int[] code = {k, 0, 1, 1};
        LyndonTransform x = Coders.make(k, 24, block, code);
        String name = Arrays.toString(block);
        CHECK.due(name + " transform()", x.transform(), answer);
        CHECK.due(name + " after transform", Coders.state(x), Coders.state(k, 24, after, code));
    }

    private static void example() {
        CHECK.sentence("Example: K = 3, block 1 0 2 0 2 0. transform() answers 4 and the block becomes 0 2 2 1 0 0.");
        due(3, Coders.of(1, 0, 2, 0, 2, 0), 4, 0, 2, 2, 1, 0, 0);
    }

    private static void letterBefore() {
        CHECK.sentence("The last letter of position p is b[p-1] if p > s");
        due(3, Coders.of(0, 1, 2), 1, 2, 0, 1);
        due(3, Coders.of(0, 2, 1), 1, 1, 2, 0);
        due(2, Coders.of(0, 0, 1, 0, 1), 1, 1, 1, 0, 0, 0);
    }

    private static void startOfAFactor() {
        CHECK.sentence("and b[s+l-1] if p = s");
        // In the first factor, where nothing stands before it.
        due(2, Coders.of(0, 1), 1, 1, 0);
        due(16, Coders.range(0, 15), 1, Coders.join(Coders.of(15), Coders.range(0, 14)));
        // In a later factor: not the letter before it, and not the last one of the block.
        due(3, Coders.of(1, 0, 2), 2, 2, 1, 0);
        due(3, Coders.of(1, 2, 0, 2, 1, 0), 3, 0, 1, 2, 2, 0, 1);
    }

    private static void factorOfLengthOne() {
        CHECK.sentence("In a factor of length 1 it is thus the letter of the factor itself.");
        for (int s = 0; s < 16; s++) {
            due(16, Coders.of(s), 1, s);
            due(16, Coders.repeat(s, 24), 24, Coders.repeat(s, 24));
        }
        due(16, Coders.reversed(Coders.range(0, 15)), 16, Coders.range(0, 15));
        due(2, Coders.of(1, 0), 2, 0, 1);
        due(2, Coders.of(0, 1, 0), 2, 0, 1, 0);
        due(3, Coders.of(2, 0, 1, 0), 3, 0, 1, 0, 2);
    }

    private static void allOfTheOldBlock() {
        CHECK.sentence("Factors, rows and last letters are all those of the old block.");
        Dice dice = new Dice(9);
        for (int round = 0; round < 5000; round++) {
            int[] block = Words.any(dice, 2 + dice.below(15), dice.below(25));
            Model model = Words.model(16, block);
            due(16, block, model.transform(), model.block());
        }
        // Again and again on one object, so that each result is the next old block.
        LyndonTransform x = Coders.make(4, 24, States.mixed(4, 24), Coders.NOTHING);
        Model model = Model.with(4, 24, States.mixed(4, 24), Coders.NOTHING);
        for (int round = 0; round < 500; round++) {
            CHECK.due("transform() number " + round, x.transform(), model.transform());
            CHECK.due("block after number " + round, Coders.block(x), model.block());
        }
    }

    private static void factorsOfTheOldBlock() {
        CHECK.sentence("It answers the number of factors of the OLD block.");
        // Old and new block have different numbers of factors in each of these.
        due(2, Coders.of(0, 1), 1, 1, 0);
        CHECK.due("factors of 1 0", factors(2, 1, 0), 2);
        due(2, Coders.of(1, 0), 2, 0, 1);
        CHECK.due("factors of 0 1", factors(2, 0, 1), 1);
        due(3, Coders.of(1, 0, 2, 0, 2, 0), 4, 0, 2, 2, 1, 0, 0);
        CHECK.due("factors of 0 2 2 1 0 0", factors(3, 0, 2, 2, 1, 0, 0), 3);
        States.eachLimits((k, c) -> {
            for (int[] block : States.blocks(k, c)) {
                LyndonTransform x = Coders.make(k, c, block, Coders.NOTHING);
                int before = Coders.factorStarts(x).length;
                CHECK.due("transform()", x.transform(), before);
            }
        });
    }

    private static int factors(int k, int... block) {
        return Coders.factorStarts(Coders.make(k, 24, block, Coders.NOTHING)).length;
    }

    private static void emptyBlock() {
        CHECK.sentence("On an empty block it answers 0 and the block stays empty.");
        States.eachLimits((k, c) -> {
            for (int[] code : States.codes(k, c)) {
                LyndonTransform x = Coders.make(k, c, Coders.repeat(1, c), code);
                x.transform();
                x.clear();
                CHECK.due("transform()", x.transform(), 0);
                CHECK.due("state", Coders.state(x), Coders.state(k, c, Coders.NOTHING, code));
            }
        });
    }

    private static void lengthAndCodeStay() {
        CHECK.sentence("The length n and the code stay.");
        States.each((k, c, block, code) -> {
            LyndonTransform x = Coders.make(k, c, block, code);
            x.transform();
            CHECK.due("length", x.length(), block.length);
            CHECK.due("code", Coders.code(x), code);
        });
        States.eachLimits((k, c) -> {
            for (int n = 0; n <= c; n++) {
                LyndonTransform x = Coders.make(k, c, States.mixed(k, n), Coders.NOTHING);
                x.transform();
                CHECK.due("length", x.length(), n);
                CHECK.due("codeLength", x.codeLength(), 0);
            }
        });
    }
}
