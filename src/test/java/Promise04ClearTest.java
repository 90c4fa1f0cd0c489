/** Promise 4: clear. */
public final class Promise04ClearTest {
    private static final Check CHECK = new Check("Promise04ClearTest");

    public static void main(String[] args) {
        makesTheBlockEmpty();
        onAnEmptyBlock();
        codeStays();
        CHECK.finish();
    }

    private static void makesTheBlockEmpty() {
        CHECK.sentence("clear() makes the block empty (n = 0).");
        States.eachLimits((k, c) -> {
            for (int n = 1; n <= c; n++) {
                LyndonTransform x = Coders.make(k, c, States.mixed(k, n), Coders.NOTHING);
                x.clear();
                CHECK.due("length", x.length(), 0);
                CHECK.due("at(0)", x.at(0), LyndonTransform.NONE);
                CHECK.due("at(n - 1)", x.at(n - 1), LyndonTransform.NONE);
                CHECK.due("factorStart(0)", x.factorStart(0), LyndonTransform.NONE);
                CHECK.due("rowAt(0)", x.rowAt(0), LyndonTransform.NONE);
            }
        });
    }

    private static void onAnEmptyBlock() {
        CHECK.sentence("On an empty block this leaves everything as it was.");
        States.eachLimits((k, c) -> {
            for (int[] code : States.codes(k, c)) {
                LyndonTransform x = Coders.make(k, c, Coders.NOTHING, code);
                x.clear();
                x.clear();
                CHECK.due("state", Coders.state(x), Coders.state(k, c, Coders.NOTHING, code));
                x.put(1);
                CHECK.due("block begun anew", Coders.block(x), Coders.of(1));
            }
        });
    }

    private static void codeStays() {
        CHECK.sentence("The code stays.");
        States.eachLimits((k, c) -> {
            for (int m = 0; m <= c; m++) {
                int[] code = States.mixed(k + 1, m);
                LyndonTransform x = Coders.make(k, c, States.mixed(k, c), code);
                x.clear();
                CHECK.due("code", Coders.code(x), code);
                CHECK.due("codeAt(m)", x.codeAt(m), LyndonTransform.NONE);
            }
        });
    }
}
