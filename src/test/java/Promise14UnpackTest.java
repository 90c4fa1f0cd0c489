import java.util.Arrays;

/** Promise 14: unpack. */
public final class Promise14UnpackTest {
    private static final Check CHECK = new Check("Promise14UnpackTest");

    public static void main(String[] args) {
        otherTokens();
        numerals();
        maximalRuns();
        exactValue();
        tooLong();
        asLongAsTheCapacity();
        replacesTheBlock();
        emptyCode();
        codeStays();
        undoesPack();
        CHECK.finish();
    }

    private static int[][] oldBlocks(int k, int c) {
        return new int[][] {Coders.NOTHING, Coders.of(1, 0), States.mixed(k, c - 1), Coders.repeat(1, c)};
    }

    private static void due(int k, int c, int[] code, int... block) {
        String name = "K=" + k + " C=" + c + " " + Arrays.toString(code);
        for (int[] old : oldBlocks(k, c)) {
            LyndonTransform x = Coders.make(k, c, old, code);
            CHECK.due(name + " unpack()", x.unpack(), block.length);
            CHECK.due(name + " after unpack", Coders.state(x), Coders.state(k, c, block, code));
        }
    }

    private static void refused(int k, int c, int... code) {
        String name = "K=" + k + " C=" + c + " " + Arrays.toString(code);
        for (int[] old : oldBlocks(k, c)) {
            LyndonTransform x = Coders.make(k, c, old, code);
            CHECK.due(name + " unpack()", x.unpack(), LyndonTransform.TOO_LONG);
            CHECK.due(name + " after a refused unpack", Coders.state(x), Coders.state(k, c, old, code));
        }
    }

    private static int[] zeros(int count) {
        return Coders.repeat(0, count);
    }

    private static void otherTokens() {
        CHECK.sentence("A token t >= 2 stands for the one symbol t - 1.");
        for (int k = 2; k <= 16; k++) {
            for (int t = 2; t <= k; t++) {
                due(k, 24, Coders.of(t), t - 1);
                due(k, 24, Coders.repeat(t, 24), Coders.repeat(t - 1, 24));
            }
            due(k, 24, Coders.range(2, k), Coders.range(1, k - 1));
        }
    }

    private static void numerals() {
        CHECK.sentence("A maximal run of tokens 0 and 1 is one numeral as in Promise 13");
        due(2, 8, Coders.of(0), zeros(1));
        due(2, 8, Coders.of(1), zeros(2));
        due(2, 8, Coders.of(0, 0), zeros(3));
        due(2, 8, Coders.of(1, 0), zeros(4));
        due(2, 8, Coders.of(0, 1), zeros(5));
        due(2, 8, Coders.of(1, 1), zeros(6));
        due(2, 8, Coders.of(0, 0, 0), zeros(7));
        due(2, 8, Coders.of(1, 0, 0), zeros(8));
        States.eachLimits((k, c) -> {
            for (int z = 1; z <= c; z++) {
                due(k, c, Numerals.TOKENS[z], zeros(z));
            }
        });
    }

    private static void maximalRuns() {
        CHECK.sentence("A maximal run of tokens 0 and 1 is one numeral (beginning, midst and end)");
        due(3, 24, Coders.of(1, 2, 0, 0, 3, 3, 0), 0, 0, 1, 0, 0, 0, 2, 2, 0);
        due(2, 24, Coders.of(1, 0, 2, 1, 0), 0, 0, 0, 0, 1, 0, 0, 0, 0);
        for (int z = 1; z <= 22; z++) {
            due(2, 24, Coders.join(Numerals.TOKENS[z], Coders.of(2), Numerals.TOKENS[23 - z]),
                Coders.join(zeros(z), Coders.of(1), zeros(23 - z)));
            due(16, 24, Coders.join(Coders.of(16), Numerals.TOKENS[z], Coders.of(16)),
                Coders.join(Coders.of(15), zeros(z), Coders.of(15)));
        }
        due(2, 24, Coders.join(Coders.of(1, 1), Coders.repeat(2, 12), Coders.of(1, 1)),
            Coders.join(zeros(6), Coders.repeat(1, 12), zeros(6)));
    }

    // Values that would look small if they were held in too few bits.
    private static void exactValue() {
        CHECK.sentence("taken as its exact value; it fits into an int for every possible code");
        for (int digits = 5; digits <= 24; digits++) {
            refused(2, 24, Coders.repeat(1, digits));
            refused(2, 24, zeros(digits));
        }
        for (int power = 5; power <= 24; power++) {
            for (int more = -6; more <= 24; more++) {
                refused(16, 24, numeral((1L << power) + more));
            }
        }
        // Tokens 2 that bring the sum to a power of two.
        refused(16, 24, Coders.join(numeral((1L << 16) - 4), Coders.repeat(2, 4)));
        refused(16, 24, Coders.join(Coders.repeat(2, 8), numeral((1L << 16) - 8)));
        refused(16, 24, Coders.join(Coders.of(16), Coders.repeat(1, 23)));
        refused(16, 24, Coders.join(Coders.repeat(1, 23), Coders.of(16)));
        refused(16, 24, Coders.join(Coders.repeat(1, 11), Coders.of(16), Coders.repeat(1, 12)));
        for (int c = 8; c <= 24; c++) {
            for (int m = 5; m <= c; m++) {
                refused(2, c, Coders.repeat(1, m));
            }
        }
    }

    private static int[] numeral(long z) {
        int[] tokens = {};
        for (long rest = z; rest > 0; rest = (rest - 1) / 2) {
            tokens = Coders.join(tokens, Coders.of(rest % 2 == 1 ? 0 : 1));
        }
        return tokens;
    }

    private static void tooLong() {
        CHECK.sentence("If d > C: answers TOO_LONG and changes nothing; the block keeps what it held.");
        States.eachLimits((k, c) -> {
            for (int z = c + 1; z <= 25; z++) {
                refused(k, c, Numerals.TOKENS[z]);
            }
            // One too many, wherever the symbols stand.
            refused(k, c, Coders.join(Coders.of(k), Numerals.TOKENS[c]));
            refused(k, c, Coders.join(Numerals.TOKENS[c], Coders.of(2)));
            refused(k, c, Coders.join(Numerals.TOKENS[3], Coders.of(k), Numerals.TOKENS[c - 3]));
            refused(k, c, Coders.join(Coders.repeat(2, c - 1), Coders.of(1)));
            refused(k, c, Coders.join(Coders.of(1), Coders.repeat(2, c - 1)));
        });
    }

    private static void asLongAsTheCapacity() {
        CHECK.sentence("Otherwise, d = C included");
        States.eachLimits((k, c) -> {
            due(k, c, Numerals.TOKENS[c], zeros(c));
            due(k, c, Coders.repeat(k, c), Coders.repeat(k - 1, c));
            due(k, c, Coders.join(Coders.of(k), Numerals.TOKENS[c - 1]),
                Coders.join(Coders.of(k - 1), zeros(c - 1)));
            due(k, c, Coders.join(Numerals.TOKENS[c - 1], Coders.of(2)), Coders.join(zeros(c - 1), Coders.of(1)));
            due(k, c, Coders.join(Numerals.TOKENS[3], Coders.of(k), Numerals.TOKENS[c - 4]),
                Coders.join(zeros(3), Coders.of(k - 1), zeros(c - 4)));
            due(k, c, Coders.join(Coders.repeat(2, c - 2), Coders.of(1)),
                Coders.join(Coders.repeat(1, c - 2), zeros(2)));
            due(k, c, Coders.join(Coders.repeat(2, c - 1), Coders.of(0)),
                Coders.join(Coders.repeat(1, c - 1), zeros(1)));
        });
    }

    private static void replacesTheBlock() {
        CHECK.sentence("the block, whatever it was, is replaced by those symbols, n becomes d, and the answer is d");
        States.each((k, c, block, code) -> {
            LyndonTransform x = Coders.make(k, c, block, code);
            Model model = Model.with(k, c, block, code);
            CHECK.due("unpack()", x.unpack(), model.unpack());
            CHECK.due("length()", x.length(), model.length());
            CHECK.due("block", Coders.block(x), model.block());
            CHECK.due("at(n)", x.at(x.length()), LyndonTransform.NONE);
            CHECK.due("factors", Coders.factorStarts(x), model.factorStarts());
        });
    }

    private static void emptyCode() {
        CHECK.sentence("An empty code gives an empty block and the answer 0.");
        States.eachLimits((k, c) -> {
            for (int[] block : States.blocks(k, c)) {
                LyndonTransform x = Coders.make(k, c, block, Coders.NOTHING);
                CHECK.due("unpack()", x.unpack(), 0);
                CHECK.due("state", Coders.state(x), Coders.state(k, c, Coders.NOTHING, Coders.NOTHING));
            }
        });
    }

    private static void codeStays() {
        CHECK.sentence("The code stays in every case.");
        States.each((k, c, block, code) -> {
            LyndonTransform x = Coders.make(k, c, block, code);
            x.unpack();
            CHECK.due("code", Coders.code(x), code);
            x.unpack();
            CHECK.due("code after a second unpack", Coders.code(x), code);
        });
    }

    private static void undoesPack() {
        CHECK.sentence("unpack() called on the code that pack() made gives the block that was packed.");
        Dice dice = new Dice(14);
        for (int round = 0; round < 5000; round++) {
            int k = 2 + dice.below(15);
            int c = 8 + dice.below(17);
            thereAndBack(k, c, Words.any(dice, dice.oneIn(2) ? 2 : k, dice.below(c + 1)), Coders.NOTHING);
        }
        States.each(Promise14UnpackTest::thereAndBack);
    }

    private static void thereAndBack(int k, int c, int[] block, int[] code) {
        LyndonTransform x = Coders.make(k, c, block, code);
        x.pack();
        CHECK.due("unpack over the block itself", x.unpack(), block.length);
        CHECK.due("pack, unpack", Coders.block(x), block);
        x.clear();
        CHECK.due("unpack after clear", x.unpack(), block.length);
        CHECK.due("pack, clear, unpack", Coders.block(x), block);
    }
}
