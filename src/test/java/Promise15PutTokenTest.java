import java.util.Arrays;

/** Promise 15: putToken. */
public final class Promise15PutTokenTest {
    private static final Check CHECK = new Check("Promise15PutTokenTest");

    public static void main(String[] args) {
        for (int k = 2; k <= 16; k++) {
            for (int c = 8; c <= 24; c++) {
                fill(k, c);
            }
        }
        CHECK.finish();
    }

    private static void fill(int k, int c) {
        int[] block = {k - 1, 0, 1};
        int[] code = new int[c];
        LyndonTransform x = Coders.make(k, c, block, Coders.NOTHING);
        for (int m = 0; m < c; m++) {
            badTokens(x, k);
            code[m] = (m * 5 + k) % (k + 1);
            String call = "K=" + k + " C=" + c + " putToken(" + code[m] + ") at m=" + m;
            CHECK.due(call, x.putToken(code[m]), LyndonTransform.OK);
            CHECK.due("state after " + call, Coders.state(x), Coders.state(k, c, block, Arrays.copyOf(code, m + 1)));
        }
        for (int t = 0; t <= k; t++) {
            CHECK.due("putToken(" + t + ") when full", x.putToken(t), LyndonTransform.FULL);
        }
        badTokens(x, k);
        CHECK.due("state when full", Coders.state(x), Coders.state(k, c, block, code));
    }

    private static void badTokens(LyndonTransform x, int k) {
        int[] before = Coders.state(x);
        for (int t : Coders.join(Coders.of(k + 1, k + 2, 17, 18), Coders.BELOW_ZERO, Coders.FAR_ABOVE)) {
            CHECK.due("K=" + k + " putToken(" + t + ")", x.putToken(t), LyndonTransform.BAD);
        }
        CHECK.due("state after bad tokens", Coders.state(x), before);
    }
}
