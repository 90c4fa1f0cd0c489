/** Every block and every code up to some length, compared with the model. */
public final class AllShortListsTest {
    private static final Check CHECK = new Check("AllShortListsTest");

    public static void main(String[] args) {
        blocks(2, 10);
        blocks(3, 6);
        blocks(4, 5);
        codes(2, 8);
        codes(3, 6);
        CHECK.finish();
    }

    private static void blocks(int symbols, int longest) {
        for (int length = 0; length <= longest; length++) {
            for (long number = 0; number < power(symbols, length); number++) {
                block(symbols, digits(number, symbols, length));
            }
        }
    }

    private static void codes(int symbols, int longest) {
        for (int length = 0; length <= longest; length++) {
            for (long number = 0; number < power(symbols + 1, length); number++) {
                code(symbols, digits(number, symbols + 1, length));
            }
        }
    }

    private static void block(int symbols, int[] block) {
        String name = symbols + java.util.Arrays.toString(block);
        LyndonTransform x = Coders.make(symbols, 24, block, Coders.NOTHING);
        Model model = Model.with(symbols, 24, block, Coders.NOTHING);
        CHECK.due(name + " factors", Coders.factorStarts(x), model.factorStarts());
        CHECK.due(name + " rows", Coders.rows(x), model.rowPositions());
        CHECK.due(name + " invert", x.invert(), model.invert());
        CHECK.due(name + " after invert", Coders.state(x), model.state());
        x = Coders.make(symbols, 24, block, Coders.NOTHING);
        model = Model.with(symbols, 24, block, Coders.NOTHING);
        CHECK.due(name + " transform", x.transform(), model.transform());
        CHECK.due(name + " after transform", Coders.state(x), model.state());
        x.front();
        model.front();
        CHECK.due(name + " after front", Coders.state(x), model.state());
        CHECK.due(name + " pack", x.pack(), model.pack());
        CHECK.due(name + " after pack", Coders.state(x), model.state());
        x.clear();
        CHECK.due(name + " unpack", x.unpack(), block.length);
        x.unfront();
        x.invert();
        CHECK.due(name + " there and back", Coders.block(x), block);
    }

    private static void code(int symbols, int[] code) {
        String name = symbols + " code " + java.util.Arrays.toString(code);
        LyndonTransform x = Coders.make(symbols, 8, Coders.of(1, 0, 1), code);
        Model model = Model.with(symbols, 8, Coders.of(1, 0, 1), code);
        CHECK.due(name + " unpack", x.unpack(), model.unpack());
        CHECK.due(name + " after unpack", Coders.state(x), model.state());
    }

    private static long power(int base, int exponent) {
        long power = 1;
        for (int i = 0; i < exponent; i++) {
            power *= base;
        }
        return power;
    }

    private static int[] digits(long number, int base, int count) {
        int[] digits = new int[count];
        long rest = number;
        for (int i = 0; i < count; i++) {
            digits[i] = (int) (rest % base);
            rest /= base;
        }
        return digits;
    }
}
