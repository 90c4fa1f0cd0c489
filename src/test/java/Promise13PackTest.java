import java.util.Arrays;

/** Promise 13: pack. */
public final class Promise13PackTest {
    private static final Check CHECK = new Check("Promise13PackTest");

    public static void main(String[] args) {
        replacesTheCode();
        otherSymbols();
        numerals();
        fullBlockOfZeros();
        runAtTheBeginning();
        runInTheMidst();
        runAtTheEnd();
        severalRuns();
        neverRefused();
        answersTheNewLength();
        emptyBlock();
        blockStays();
        CHECK.finish();
    }

    private static void due(int k, int c, int[] block, int... tokens) {
        String name = "K=" + k + " C=" + c + " " + Arrays.toString(block);
        LyndonTransform x = Coders.make(k, c, block, Coders.NOTHING);
        CHECK.due(name + " pack()", x.pack(), tokens.length);
        CHECK.due(name + " after pack", Coders.state(x), Coders.state(k, c, block, tokens));
    }

    private static int[] zeros(int count) {
        return Coders.repeat(0, count);
    }

    private static void replacesTheCode() {
        CHECK.sentence("pack() replaces the code, whatever it was, by the run code of the block.");
        States.eachLimits((k, c) -> {
            int[] block = {0, 0, 0, 1, k - 1, 0};
            int[] tokens = {0, 0, 2, k, 0};
            for (int m = 0; m <= c; m++) {
                LyndonTransform x = Coders.make(k, c, block, States.mixed(k + 1, m));
                CHECK.due("pack() over " + m + " tokens", x.pack(), 5);
                CHECK.due("code", Coders.code(x), tokens);
                CHECK.due("codeAt(5)", x.codeAt(5), LyndonTransform.NONE);
                CHECK.due("pack() a second time", x.pack(), 5);
                CHECK.due("code a second time", Coders.code(x), tokens);
                x.putToken(1);
                CHECK.due("code with one token more", Coders.code(x), Coders.join(tokens, Coders.of(1)));
            }
        });
        LyndonTransform x = Coders.make(2, 8, Coders.repeat(1, 8), Coders.of(0, 1));
        x.pack();
        x.unpack();
        CHECK.due("unpack of the new code", Coders.block(x), Coders.repeat(1, 8));
    }

    private static void otherSymbols() {
        CHECK.sentence("A symbol s that is not 0 gives the one token s + 1.");
        for (int k = 2; k <= 16; k++) {
            for (int s = 1; s < k; s++) {
                due(k, 24, Coders.of(s), s + 1);
                due(k, 24, Coders.repeat(s, 24), Coders.repeat(s + 1, 24));
            }
            due(k, 24, Coders.range(1, k - 1), Coders.range(2, k));
        }
    }

    private static void numerals() {
        CHECK.sentence("Numerals of the first values, as tokens");
        due(2, 8, zeros(1), 0);
        due(2, 8, zeros(2), 1);
        due(2, 8, zeros(3), 0, 0);
        due(2, 8, zeros(4), 1, 0);
        due(2, 8, zeros(5), 0, 1);
        due(2, 8, zeros(6), 1, 1);
        due(2, 8, zeros(7), 0, 0, 0);
        due(2, 8, zeros(8), 1, 0, 0);
        for (int z = 9; z <= 24; z++) {
            due(16, 24, zeros(z), Numerals.TOKENS[z]);
        }
    }

    private static void fullBlockOfZeros() {
        CHECK.sentence("A maximal run of z >= 1 symbols 0 gives the numeral of z (z = C)");
        due(2, 24, zeros(24), 1, 0, 0, 1);
        States.eachLimits((k, c) -> due(k, c, zeros(c), Numerals.TOKENS[c]));
    }

    private static void runAtTheBeginning() {
        CHECK.sentence("A maximal run of z >= 1 symbols 0 gives the numeral of z (at the beginning)");
        States.eachLimits((k, c) -> {
            for (int z = 1; z < c; z++) {
                due(k, c, Coders.join(zeros(z), Coders.repeat(k - 1, c - z)),
                    Coders.join(Numerals.TOKENS[z], Coders.repeat(k, c - z)));
            }
        });
    }

    private static void runInTheMidst() {
        CHECK.sentence("A maximal run of z >= 1 symbols 0 gives the numeral of z (in the midst)");
        States.eachLimits((k, c) -> {
            for (int z = 1; z <= c - 2; z++) {
                due(k, c, Coders.join(Coders.of(k - 1), zeros(z), Coders.of(1)),
                    Coders.join(Coders.of(k), Numerals.TOKENS[z], Coders.of(2)));
            }
        });
    }

    private static void runAtTheEnd() {
        CHECK.sentence("A maximal run of z >= 1 symbols 0 gives the numeral of z (at the end)");
        States.eachLimits((k, c) -> {
            for (int z = 1; z < c; z++) {
                due(k, c, Coders.join(Coders.repeat(1, c - z), zeros(z)),
                    Coders.join(Coders.repeat(2, c - z), Numerals.TOKENS[z]));
            }
        });
    }

    private static void severalRuns() {
        CHECK.sentence("A maximal run of z >= 1 symbols 0 gives the numeral of z (each run its own)");
        due(3, 24, Coders.of(0, 0, 1, 0, 0, 0, 2, 2, 0), 1, 2, 0, 0, 3, 3, 0);
        due(3, 24, Coders.of(0, 2, 0, 2, 2, 0), 0, 3, 0, 3, 3, 0);
        for (int z = 1; z <= 22; z++) {
            due(2, 24, Coders.join(zeros(z), Coders.of(1), zeros(23 - z)),
                Coders.join(Numerals.TOKENS[z], Coders.of(2), Numerals.TOKENS[23 - z]));
        }
        Dice dice = new Dice(13);
        for (int round = 0; round < 5000; round++) {
            int k = 2 + dice.below(15);
            int[] block = Words.any(dice, dice.oneIn(2) ? 2 : k, dice.below(25));
            Model model = Words.model(k, block);
            model.pack();
            due(k, 24, block, model.code());
        }
    }

    private static void neverRefused() {
        CHECK.sentence("The run code never has more than n tokens, so it always fits, and the call is never refused.");
        States.eachLimits((k, c) -> {
            // These two give as many tokens as they have symbols.
            fits(k, c, Coders.repeat(k - 1, c), c);
            int[] alternating = new int[c];
            for (int i = 0; i < c; i++) {
                alternating[i] = i % 2;
            }
            fits(k, c, alternating, c);
            fits(k, c, zeros(c), Numerals.TOKENS[c].length);
        });
        States.each((k, c, block, code) -> {
            int answer = Coders.make(k, c, block, code).pack();
            CHECK.isTrue("pack() answers " + answer + " for " + block.length + " symbols",
                answer >= 0 && answer <= block.length);
        });
    }

    private static void fits(int k, int c, int[] block, int tokens) {
        CHECK.due("pack() over an empty code", Coders.make(k, c, block, Coders.NOTHING).pack(), tokens);
        CHECK.due("pack() over a full code", Coders.make(k, c, block, Coders.repeat(k, c)).pack(), tokens);
    }

    private static void answersTheNewLength() {
        CHECK.sentence("It answers the new m.");
        States.each((k, c, block, code) -> {
            LyndonTransform x = Coders.make(k, c, block, code);
            Model model = Model.with(k, c, block, code);
            int answer = x.pack();
            CHECK.due("pack()", answer, model.pack());
            CHECK.due("codeLength()", x.codeLength(), answer);
            CHECK.due("code", Coders.code(x), model.code());
        });
    }

    private static void emptyBlock() {
        CHECK.sentence("An empty block gives an empty code and the answer 0.");
        States.eachLimits((k, c) -> {
            for (int[] code : States.codes(k, c)) {
                LyndonTransform x = Coders.make(k, c, Coders.NOTHING, code);
                CHECK.due("pack()", x.pack(), 0);
                CHECK.due("state", Coders.state(x), Coders.state(k, c, Coders.NOTHING, Coders.NOTHING));
                x = Coders.make(k, c, zeros(c), code);
                x.pack();
                x.clear();
                CHECK.due("pack() after clear", x.pack(), 0);
                CHECK.due("codeAt(0)", x.codeAt(0), LyndonTransform.NONE);
            }
        });
    }

    private static void blockStays() {
        CHECK.sentence("The block stays.");
        States.each((k, c, block, code) -> {
            LyndonTransform x = Coders.make(k, c, block, code);
            x.pack();
            CHECK.due("block", Coders.block(x), block);
        });
    }
}
