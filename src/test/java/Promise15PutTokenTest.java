import java.util.Arrays;

/** Promise 15: putToken. */
public final class Promise15PutTokenTest {
    private static final Check CHECK = new Check("Promise15PutTokenTest");

    public static void main(String[] args) {
        tokenBelowZero();
        tokenTooGreat();
        badInAFullCode();
        greatestToken();
        fullCode();
        appends();
        earlierTokensAndBlockStay();
        roomAfterAFullCode();
        CHECK.finish();
    }

    private static int[] tooGreat(int k) {
        return Coders.join(Coders.range(k + 1, 24), Coders.FAR_ABOVE);
    }

    private static void refused(int k, int c, int[] code, int[] tokens, int answer) {
        for (int[] block : new int[][] {Coders.NOTHING, Coders.of(k - 1, 0, 1), Coders.repeat(k - 1, c)}) {
            LyndonTransform x = Coders.make(k, c, block, code);
            int[] before = Coders.state(k, c, block, code);
            for (int t : tokens) {
                String call = "K=" + k + " C=" + c + " m=" + code.length + " putToken(" + t + ")";
                CHECK.due(call, x.putToken(t), answer);
                CHECK.due("state after " + call, Coders.state(x), before);
            }
        }
    }

    private static void tokenBelowZero() {
        CHECK.sentence("If t < 0: answers BAD and changes nothing.");
        States.eachLimits((k, c) -> {
            for (int m = 0; m < c; m++) {
                refused(k, c, States.mixed(k + 1, m), Coders.BELOW_ZERO, LyndonTransform.BAD);
            }
        });
    }

    private static void tokenTooGreat() {
        CHECK.sentence("If t > K: answers BAD and changes nothing.");
        States.eachLimits((k, c) -> {
            for (int m = 0; m < c; m++) {
                refused(k, c, States.mixed(k + 1, m), tooGreat(k), LyndonTransform.BAD);
            }
        });
    }

    private static void badInAFullCode() {
        CHECK.sentence("This holds also when the code is full.");
        States.eachLimits((k, c) -> {
            refused(k, c, States.mixed(k + 1, c), Coders.BELOW_ZERO, LyndonTransform.BAD);
            refused(k, c, States.mixed(k + 1, c), tooGreat(k), LyndonTransform.BAD);
        });
    }

    private static void greatestToken() {
        CHECK.sentence("The value K itself is a permitted token.");
        States.eachLimits((k, c) -> {
            LyndonTransform x = new LyndonTransform(k, c);
            for (int m = 0; m < c; m++) {
                CHECK.due("putToken(K)", x.putToken(k), LyndonTransform.OK);
                CHECK.due("codeAt(m)", x.codeAt(m), k);
            }
            CHECK.due("putToken(K) when full", x.putToken(k), LyndonTransform.FULL);
        });
    }

    private static void fullCode() {
        CHECK.sentence("Otherwise, if m = C: answers FULL and changes nothing.");
        States.eachLimits((k, c) ->
            refused(k, c, States.mixed(k + 1, c), Coders.range(0, k), LyndonTransform.FULL));
    }

    private static void appends() {
        CHECK.sentence("Otherwise c[m] (with the old m) becomes t, m grows by one, and the answer is OK.");
        States.eachLimits((k, c) -> {
            for (int m = 0; m < c; m++) {
                for (int t = 0; t <= k; t++) {
                    LyndonTransform x = Coders.make(k, c, Coders.NOTHING, Coders.repeat(t == 0 ? 1 : 0, m));
                    String call = "K=" + k + " C=" + c + " m=" + m + " putToken(" + t + ")";
                    CHECK.due(call, x.putToken(t), LyndonTransform.OK);
                    CHECK.due(call + " codeLength", x.codeLength(), m + 1);
                    CHECK.due(call + " last token", x.codeAt(m), t);
                }
            }
        });
    }

    private static void earlierTokensAndBlockStay() {
        CHECK.sentence("The earlier tokens of the code and the block stay.");
        States.eachLimits((k, c) -> {
            for (int[] block : States.blocks(k, c)) {
                int[] code = States.mixed(k + 1, c);
                LyndonTransform x = Coders.make(k, c, block, Coders.NOTHING);
                for (int m = 0; m < c; m++) {
                    x.putToken(code[m]);
                    CHECK.due("state at m=" + (m + 1), Coders.state(x),
                        Coders.state(k, c, block, Arrays.copyOf(code, m + 1)));
                }
            }
        });
    }

    private static void roomAfterAFullCode() {
        CHECK.sentence("if m = C (with the present m, not with an earlier one)");
        States.eachLimits((k, c) -> {
            LyndonTransform x = Coders.make(k, c, Coders.of(1), Coders.repeat(1, c));
            x.putToken(1);
            x.pack();
            CHECK.due("putToken after pack", x.putToken(0), LyndonTransform.OK);
            CHECK.due("code afterwards", Coders.code(x), Coders.of(2, 0));
        });
    }
}
