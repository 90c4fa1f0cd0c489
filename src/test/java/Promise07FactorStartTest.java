import java.util.Arrays;
import java.util.stream.IntStream;

/** Promise 7: factorStart, and what the factors are. */
public final class Promise07FactorStartTest {
    private static final Check CHECK = new Check("Promise07FactorStartTest");
    private static final int[][] PRIME_WORDS = {{0}, {1}, {0, 1}, {0, 0, 1}, {0, 1, 1}, {0, 0, 1, 1}, {0, 0, 1, 0, 1},
        {0, 0, 1, 0, 1, 1}, {0, 1, 0, 1, 1}, {0, 0, 0, 1, 0, 0, 1}, {0, 1, 0, 1, 0, 1, 1}};

    public static void main(String[] args) {
        example();
        properPrefixIsSmaller();
        lengthOne();
        longestPrimePrefix();
        untilTheBlockIsUsedUp();
        noFactors();
        numberedFromLeftToRight();
        equalFactors();
        everyOtherNumber();
        emptyBlock();
        changesNothing();
        CHECK.finish();
    }

    private static void due(int k, int[] block, int... starts) {
        LyndonTransform x = Coders.make(k, 24, block, Coders.of(k, 1));
        String name = Arrays.toString(block);
        for (int j = 0; j < starts.length; j++) {
            CHECK.due(name + " factorStart(" + j + ")", x.factorStart(j), starts[j]);
        }
        noneFor(x, name, starts.length);
    }

    private static void noneFor(LyndonTransform x, String name, int factors) {
        for (int j : Coders.outside(factors)) {
            CHECK.due(name + " factorStart(" + j + ")", x.factorStart(j), LyndonTransform.NONE);
        }
    }

    private static void example() {
        CHECK.sentence("Example: K = 3, block 1 0 2 0 2 0.");
        due(3, Coders.of(1, 0, 2, 0, 2, 0), 0, 1, 3, 5);
    }

    private static void properPrefixIsSmaller() {
        CHECK.sentence("Word u is smaller than word v when u is a proper prefix of v");
        // A word that ends as it begins is not prime: the suffix is a proper prefix, thus smaller.
        due(2, Coders.of(0, 1, 0), 0, 2);
        due(2, Coders.of(0, 1, 0, 1), 0, 2);
        due(2, Coders.of(0, 0, 1, 0, 0), 0, 3, 4);
        due(2, Coders.of(0, 0, 1, 0, 1, 0, 0, 1, 0), 0, 5, 8);
        due(3, Coders.of(0, 2, 1, 0, 2), 0, 3);
    }

    private static void lengthOne() {
        CHECK.sentence("Every word of length 1 is prime.");
        for (int k = 2; k <= 16; k++) {
            for (int s = 0; s < k; s++) {
                due(k, Coders.of(s), 0);
            }
            // In a falling block no factor is longer than 1.
            due(k, Coders.reversed(Coders.range(0, k - 1)), Coders.range(0, k - 1));
        }
        // At the end of a full block.
        due(2, Coders.join(Coders.of(0), Coders.repeat(1, 22), Coders.of(0)), 0, 23);
    }

    private static void longestPrimePrefix() {
        CHECK.sentence("The first factor is the longest prefix of the block that is a prime word.");
        due(2, Coders.of(0, 1), 0);
        due(2, Coders.of(1, 0), 0, 1);
        due(2, Coders.of(0, 1, 0, 1, 0, 1, 1), 0);
        due(2, Coders.of(0, 0, 1, 0, 1, 0, 0, 1, 1), 0);
        due(2, Coders.of(0, 1, 1, 0, 1, 0, 0), 0, 3, 5, 6);
        // 2 15 is greater than 2 14, so they stay two factors; turned round they are one.
        due(16, Coders.of(2, 15, 2, 14), 0, 2);
        due(16, Coders.of(2, 14, 2, 15), 0);
        due(16, Coders.range(0, 15), 0);
        due(2, Coders.join(Coders.repeat(0, 23), Coders.of(1)), 0);
        due(2, Coders.join(Coders.of(0), Coders.repeat(1, 23)), 0);
        // The end of a full block tells whether all of it is one word.
        int[] copies = Coders.of(0, 0, 1, 0, 0, 1, 0, 0, 1, 0, 0, 1, 0, 0, 1, 0, 0, 1, 0, 0, 1);
        due(2, Coders.join(copies, Coders.of(0, 1, 1)), 0);
        due(2, Coders.join(copies, Coders.of(0, 1, 0)), 0, 23);
        due(2, Coders.join(copies, Coders.of(0, 0, 0)), 0, 3, 6, 9, 12, 15, 18, 21, 22, 23);
    }

    private static void untilTheBlockIsUsedUp() {
        CHECK.sentence("and so on until the block is used up");
        due(16, Coders.of(15, 3, 7, 3, 7, 3, 7, 2, 15, 2, 14, 2, 14, 0, 0, 9, 0, 0, 9, 0, 0, 0, 8, 0),
            0, 1, 3, 5, 7, 9, 11, 13, 16, 19, 23);
        Dice dice = new Dice(7);
        for (int round = 0; round < 3000; round++) {
            int[] block = Words.any(dice, 2 + dice.below(15), dice.below(25));
            due(16, block, Words.model(16, block).factorStarts());
        }
        States.eachLimits((k, c) -> {
            for (int[] block : States.blocks(k, c)) {
                LyndonTransform x = Coders.make(k, c, block, Coders.NOTHING);
                CHECK.due("factors", Coders.factorStarts(x),
                    Model.with(k, c, block, Coders.NOTHING).factorStarts());
            }
        });
    }

    private static void noFactors() {
        CHECK.sentence("An empty block has no factors.");
        States.eachLimits((k, c) -> {
            LyndonTransform x = new LyndonTransform(k, c);
            CHECK.due("factorStart(0)", x.factorStart(0), LyndonTransform.NONE);
            CHECK.due("transform(), which tells their number", x.transform(), 0);
        });
    }

    private static void numberedFromLeftToRight() {
        CHECK.sentence("The factors are numbered 0, 1, 2, .. from left to right and are non-increasing "
            + "in dictionary order.");
        Dice dice = new Dice(107);
        for (int round = 0; round < 2000; round++) {
            int[] block = Words.any(dice, 2 + dice.below(15), 1 + dice.below(24));
            LyndonTransform x = Coders.make(16, 24, block, Coders.NOTHING);
            int[] ends = Coders.join(Coders.factorStarts(x), Coders.of(block.length));
            CHECK.due("first factor", ends[0], 0);
            for (int j = 1; j + 1 < ends.length; j++) {
                int[] former = Arrays.copyOfRange(block, ends[j - 1], ends[j]);
                int[] latter = Arrays.copyOfRange(block, ends[j], ends[j + 1]);
                CHECK.isTrue(Arrays.toString(block) + " factor " + j + " is not greater than the one before it",
                    Arrays.compare(former, latter) >= 0);
            }
        }
    }

    private static void equalFactors() {
        CHECK.sentence("Equal factors that stand side by side remain separate factors.");
        for (int[] word : PRIME_WORDS) {
            int[] block = {};
            for (int copies = 1; copies * word.length <= 24; copies++) {
                block = Coders.join(block, word);
                due(2, block, IntStream.range(0, copies).map(i -> i * word.length).toArray());
            }
        }
        for (int s = 0; s < 16; s++) {
            due(16, Coders.repeat(s, 24), Coders.range(0, 23));
        }
    }

    private static void everyOtherNumber() {
        CHECK.sentence("For every other j it answers NONE");
        States.eachLimits((k, c) -> {
            for (int n = 1; n <= c; n++) {
                // As many factors as symbols, and one factor alone.
                noneFor(Coders.make(k, c, Coders.repeat(k - 1, n), Coders.repeat(k, c)), "equal", n);
                int[] one = Coders.join(Coders.repeat(0, n - 1), Coders.of(1));
                noneFor(Coders.make(k, c, one, Coders.repeat(k, c)), "one factor", 1);
            }
        });
    }

    private static void emptyBlock() {
        CHECK.sentence("on an empty block that is every j");
        States.eachLimits((k, c) -> {
            noneFor(new LyndonTransform(k, c), "new", 0);
            LyndonTransform x = Coders.make(k, c, Coders.repeat(1, c), Coders.repeat(2, c));
            x.factorStart(0);
            x.clear();
            noneFor(x, "cleared", 0);
            x = Coders.make(k, c, Coders.repeat(1, c), Coders.NOTHING);
            x.factorStart(0);
            x.unpack();
            noneFor(x, "unpacked from nothing", 0);
        });
    }

    private static void changesNothing() {
        CHECK.sentence("It changes nothing.");
        States.each((k, c, block, code) -> {
            LyndonTransform x = Coders.make(k, c, block, code);
            int[] before = Coders.state(k, c, block, code);
            for (int j : Coders.outside(0)) {
                x.factorStart(j);
                CHECK.due("state after factorStart(" + j + ")", Coders.state(x), before);
            }
        });
    }
}
