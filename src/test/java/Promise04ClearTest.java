/** Promise 4: clear. */
public final class Promise04ClearTest {
    private static final Check CHECK = new Check("Promise04ClearTest");

    public static void main(String[] args) {
        for (int n = 0; n <= 24; n++) {
            int[] code = Coders.repeat(7, 24 - n);
            LyndonTransform x = Coders.make(7, 24, Coders.repeat(6, n), code);
            x.clear();
            CHECK.due("state after clear of " + n, Coders.state(x), Coders.state(7, 24, Coders.NOTHING, code));
            CHECK.due("at(0) after clear", x.at(0), LyndonTransform.NONE);
            CHECK.due("factorStart(0) after clear", x.factorStart(0), LyndonTransform.NONE);
            CHECK.due("rowAt(0) after clear", x.rowAt(0), LyndonTransform.NONE);
            x.clear();
            CHECK.due("state after a second clear", Coders.state(x), Coders.state(7, 24, Coders.NOTHING, code));
        }
        CHECK.finish();
    }
}
