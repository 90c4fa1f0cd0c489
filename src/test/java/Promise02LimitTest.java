/** Promise 2: limit. */
public final class Promise02LimitTest {
    private static final Check CHECK = new Check("Promise02LimitTest");

    public static void main(String[] args) {
        for (int k = 2; k <= 16; k++) {
            for (int c = 8; c <= 24; c++) {
                LyndonTransform x = new LyndonTransform(k, c);
                CHECK.due("limit(0)", x.limit(0), k);
                CHECK.due("limit(1)", x.limit(1), c);
                CHECK.due("limit(2)", x.limit(2), LyndonTransform.NONE);
            }
        }
        wrongNumbers();
        CHECK.finish();
    }

    private static void wrongNumbers() {
        int[] block = {3, 0, 3};
        int[] code = {4, 1};
        LyndonTransform x = Coders.make(4, 10, block, code);
        for (int which : Coders.join(Coders.of(2, 3, 4, 8, 10, 16, 24), Coders.BELOW_ZERO, Coders.FAR_ABOVE)) {
            CHECK.due("limit(" + which + ")", x.limit(which), LyndonTransform.NONE);
        }
        CHECK.due("state afterwards", Coders.state(x), Coders.state(4, 10, block, code));
    }
}
