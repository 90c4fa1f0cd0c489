import java.util.Arrays;

/** Promise 3: put. */
public final class Promise03PutTest {
    private static final Check CHECK = new Check("Promise03PutTest");

    public static void main(String[] args) {
        symbolBelowZero();
        symbolTooGreat();
        badInAFullBlock();
        fullBlock();
        appends();
        earlierSymbolsAndCodeStay();
        roomAfterAFullBlock();
        CHECK.finish();
    }

    private static int[] tooGreat(int k) {
        return Coders.join(Coders.range(k, 24), Coders.FAR_ABOVE);
    }

    private static void refused(int k, int c, int[] block, int[] symbols, int answer) {
        for (int[] code : new int[][] {Coders.NOTHING, Coders.of(k, 0, 1), Coders.repeat(k, c)}) {
            LyndonTransform x = Coders.make(k, c, block, code);
            int[] before = Coders.state(k, c, block, code);
            for (int s : symbols) {
                String call = "K=" + k + " C=" + c + " n=" + block.length + " put(" + s + ")";
                CHECK.due(call, x.put(s), answer);
                CHECK.due("state after " + call, Coders.state(x), before);
            }
        }
    }

    private static void symbolBelowZero() {
        CHECK.sentence("If s < 0: answers BAD and changes nothing.");
        States.eachLimits((k, c) -> {
            for (int n = 0; n < c; n++) {
                refused(k, c, States.mixed(k, n), Coders.BELOW_ZERO, LyndonTransform.BAD);
            }
        });
    }

    private static void symbolTooGreat() {
        CHECK.sentence("If s >= K: answers BAD and changes nothing.");
        States.eachLimits((k, c) -> {
            for (int n = 0; n < c; n++) {
                refused(k, c, States.mixed(k, n), tooGreat(k), LyndonTransform.BAD);
            }
        });
    }

    private static void badInAFullBlock() {
        CHECK.sentence("This holds also when the block is full.");
        States.eachLimits((k, c) -> {
            refused(k, c, States.mixed(k, c), Coders.BELOW_ZERO, LyndonTransform.BAD);
            refused(k, c, States.mixed(k, c), tooGreat(k), LyndonTransform.BAD);
        });
    }

    private static void fullBlock() {
        CHECK.sentence("Otherwise, if n = C: answers FULL and changes nothing.");
        States.eachLimits((k, c) ->
            refused(k, c, States.mixed(k, c), Coders.range(0, k - 1), LyndonTransform.FULL));
    }

    private static void appends() {
        CHECK.sentence("Otherwise b[n] (with the old n) becomes s, n grows by one, and the answer is OK.");
        States.eachLimits((k, c) -> {
            for (int n = 0; n < c; n++) {
                for (int s = 0; s < k; s++) {
                    LyndonTransform x = Coders.make(k, c, Coders.repeat(s == 0 ? 1 : 0, n), Coders.NOTHING);
                    String call = "K=" + k + " C=" + c + " n=" + n + " put(" + s + ")";
                    CHECK.due(call, x.put(s), LyndonTransform.OK);
                    CHECK.due(call + " length", x.length(), n + 1);
                    CHECK.due(call + " last symbol", x.at(n), s);
                }
            }
        });
    }

    private static void earlierSymbolsAndCodeStay() {
        CHECK.sentence("The earlier symbols of the block and the code stay.");
        States.eachLimits((k, c) -> {
            for (int[] code : States.codes(k, c)) {
                int[] block = States.mixed(k, c);
                LyndonTransform x = Coders.make(k, c, Coders.NOTHING, code);
                for (int n = 0; n < c; n++) {
                    x.put(block[n]);
                    CHECK.due("state at n=" + (n + 1), Coders.state(x),
                        Coders.state(k, c, Arrays.copyOf(block, n + 1), code));
                }
            }
        });
    }

    private static void roomAfterAFullBlock() {
        CHECK.sentence("if n = C (with the present n, not with an earlier one)");
        States.eachLimits((k, c) -> {
            LyndonTransform x = Coders.make(k, c, Coders.repeat(1, c), Coders.of(2, 2));
            x.put(1);
            x.clear();
            CHECK.due("put after clear", x.put(0), LyndonTransform.OK);
            x.unpack();
            CHECK.due("put after unpack", x.put(0), LyndonTransform.OK);
            CHECK.due("block afterwards", Coders.block(x), Coders.of(1, 1, 0));
        });
    }
}
