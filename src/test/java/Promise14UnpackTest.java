import java.util.Arrays;

/** Promise 14: unpack. */
public final class Promise14UnpackTest {
    private static final Check CHECK = new Check("Promise14UnpackTest");

    public static void main(String[] args) {
        for (int k = 2; k <= 16; k++) {
            due(k, 24, Coders.NOTHING, Coders.NOTHING);
            for (int t = 2; t <= k; t++) {
                due(k, 24, Coders.of(t), Coders.of(t - 1));
                due(k, 24, Coders.repeat(t, 24), Coders.repeat(t - 1, 24));
            }
        }
        due(3, 24, Coders.of(1, 2, 0, 0, 3, 3, 0), Coders.of(0, 0, 1, 0, 0, 0, 2, 2, 0));
        due(2, 24, Coders.of(1, 0, 2, 1, 0), Coders.of(0, 0, 0, 0, 1, 0, 0, 0, 0));
        for (int c = 8; c <= 24; c++) {
            aroundTheCapacity(c);
        }
        hugeNumerals();
        undoesPack();
        CHECK.finish();
    }

    private static void due(int k, int c, int[] code, int[] block) {
        String name = "K=" + k + " C=" + c + " " + Arrays.toString(code);
        for (int[] old : new int[][] {Coders.NOTHING, Coders.of(1, 0), Coders.repeat(1, c)}) {
            LyndonTransform x = Coders.make(k, c, old, code);
            CHECK.due(name + " unpack()", x.unpack(), block.length);
            CHECK.due(name + " after unpack", Coders.state(x), Coders.state(k, c, block, code));
        }
    }

    private static void tooLong(int k, int c, int[] code) {
        String name = "K=" + k + " C=" + c + " " + Arrays.toString(code);
        for (int[] old : new int[][] {Coders.NOTHING, Coders.of(1, 0), Coders.repeat(1, c)}) {
            LyndonTransform x = Coders.make(k, c, old, code);
            CHECK.due(name + " unpack()", x.unpack(), LyndonTransform.TOO_LONG);
            CHECK.due(name + " after a refused unpack", Coders.state(x), Coders.state(k, c, old, code));
        }
    }

    private static void aroundTheCapacity(int c) {
        for (int z = 1; z <= c; z++) {
            due(2, c, Numerals.TOKENS[z], Coders.repeat(0, z));
        }
        for (int z = c + 1; z <= 25; z++) {
            tooLong(2, c, Numerals.TOKENS[z]);
        }
        int[] three = Coders.of(3);
        int[] two = Coders.of(2);
        due(2, c, Coders.join(two, Numerals.TOKENS[c - 1]),
            Coders.join(Coders.of(1), Coders.repeat(0, c - 1)));
        due(3, c, Coders.join(Numerals.TOKENS[c - 1], three),
            Coders.join(Coders.repeat(0, c - 1), Coders.of(2)));
        due(3, c, Coders.join(Numerals.TOKENS[3], three, Numerals.TOKENS[c - 4]),
            Coders.join(Coders.repeat(0, 3), Coders.of(2), Coders.repeat(0, c - 4)));
        tooLong(2, c, Coders.join(two, Numerals.TOKENS[c]));
        tooLong(3, c, Coders.join(Numerals.TOKENS[c], three));
        tooLong(3, c, Coders.join(Numerals.TOKENS[3], three, Numerals.TOKENS[c - 3]));
    }

    // Values that would look small if they were held in too few bits.
    private static void hugeNumerals() {
        for (int digits = 5; digits <= 24; digits++) {
            tooLong(2, 24, Coders.repeat(1, digits));
            tooLong(2, 24, Coders.repeat(0, digits));
        }
        for (int power = 5; power <= 24; power++) {
            for (int more = -1; more <= 24; more++) {
                tooLong(16, 24, numeral((1L << power) + more));
            }
        }
        tooLong(16, 24, Coders.join(Coders.of(16), Coders.repeat(1, 23)));
        tooLong(16, 24, Coders.join(Coders.repeat(1, 23), Coders.of(16)));
        tooLong(16, 24, Coders.join(Coders.repeat(1, 11), Coders.of(16), Coders.repeat(1, 12)));
        due(2, 24, Coders.join(Coders.of(1, 1), Coders.repeat(2, 12), Coders.of(1, 1)),
            Coders.join(Coders.repeat(0, 6), Coders.repeat(1, 12), Coders.repeat(0, 6)));
    }

    private static int[] numeral(long z) {
        int[] tokens = {};
        for (long rest = z; rest > 0; rest = (rest - 1) / 2) {
            tokens = Coders.join(tokens, Coders.of(rest % 2 == 1 ? 0 : 1));
        }
        return tokens;
    }

    private static void undoesPack() {
        Dice dice = new Dice(14);
        for (int round = 0; round < 5000; round++) {
            int k = 2 + dice.below(15);
            int[] block = Words.any(dice, dice.oneIn(2) ? 2 : k, dice.below(25));
            LyndonTransform x = Coders.make(k, 24, block, Coders.NOTHING);
            x.pack();
            x.clear();
            CHECK.due("unpack after pack", x.unpack(), block.length);
            CHECK.due("pack, unpack", Coders.block(x), block);
        }
    }
}
