import java.util.Arrays;

/** Promise 3: put. */
public final class Promise03PutTest {
    private static final Check CHECK = new Check("Promise03PutTest");

    public static void main(String[] args) {
        for (int k = 2; k <= 16; k++) {
            for (int c = 8; c <= 24; c++) {
                fill(k, c);
            }
        }
        roomAfterClear();
        CHECK.finish();
    }

    private static void fill(int k, int c) {
        int[] code = {k, 0, 1};
        int[] block = new int[c];
        LyndonTransform x = Coders.make(k, c, Coders.NOTHING, code);
        for (int n = 0; n < c; n++) {
            badSymbols(x, k);
            block[n] = (n * 5 + k - 1) % k;
            String call = "K=" + k + " C=" + c + " put(" + block[n] + ") at n=" + n;
            CHECK.due(call, x.put(block[n]), LyndonTransform.OK);
            CHECK.due("state after " + call, Coders.state(x), Coders.state(k, c, Arrays.copyOf(block, n + 1), code));
        }
        for (int s = 0; s < k; s++) {
            CHECK.due("put(" + s + ") when full", x.put(s), LyndonTransform.FULL);
        }
        badSymbols(x, k);
        CHECK.due("state when full", Coders.state(x), Coders.state(k, c, block, code));
    }

    private static void badSymbols(LyndonTransform x, int k) {
        int[] before = Coders.state(x);
        for (int s : Coders.join(Coders.of(k, k + 1, 16, 17), Coders.BELOW_ZERO, Coders.FAR_ABOVE)) {
            CHECK.due("K=" + k + " put(" + s + ")", x.put(s), LyndonTransform.BAD);
        }
        CHECK.due("state after bad symbols", Coders.state(x), before);
    }

    private static void roomAfterClear() {
        LyndonTransform x = Coders.make(2, 8, Coders.repeat(1, 8), Coders.NOTHING);
        x.clear();
        CHECK.due("put after clear", x.put(0), LyndonTransform.OK);
        CHECK.due("block after clear and put", Coders.block(x), Coders.of(0));
    }
}
