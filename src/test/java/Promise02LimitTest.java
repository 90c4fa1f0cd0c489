/** Promise 2: limit. */
public final class Promise02LimitTest {
    private static final Check CHECK = new Check("Promise02LimitTest");

    public static void main(String[] args) {
        zeroAndOne();
        anyOther();
        changesNothing();
        CHECK.finish();
    }

    private static void zeroAndOne() {
        CHECK.sentence("which = 0: answers K. which = 1: answers C.");
        States.eachLimits((k, c) -> {
            LyndonTransform x = new LyndonTransform(k, c);
            CHECK.due("limit(0)", x.limit(0), k);
            CHECK.due("limit(1)", x.limit(1), c);
            x = Coders.make(k, c, States.mixed(k, c), Coders.repeat(k, c));
            CHECK.due("limit(0) of a full object", x.limit(0), k);
            CHECK.due("limit(1) of a full object", x.limit(1), c);
        });
    }

    private static void anyOther() {
        CHECK.sentence("Any other which, negative or positive: answers NONE.");
        States.eachLimits((k, c) -> {
            noneFor(new LyndonTransform(k, c));
            noneFor(Coders.make(k, c, States.mixed(k, c), Coders.repeat(k, c)));
        });
    }

    private static void noneFor(LyndonTransform x) {
        for (int which : Coders.join(Coders.BELOW_ZERO, Coders.range(2, 24), Coders.FAR_ABOVE)) {
            CHECK.due("limit(" + which + ")", x.limit(which), LyndonTransform.NONE);
        }
    }

    private static void changesNothing() {
        CHECK.sentence("It changes nothing.");
        States.each((k, c, block, code) -> {
            LyndonTransform x = Coders.make(k, c, block, code);
            int[] before = Coders.state(k, c, block, code);
            for (int which : Coders.join(Coders.BELOW_ZERO, Coders.range(0, 24), Coders.FAR_ABOVE)) {
                x.limit(which);
                CHECK.due("state after limit(" + which + ")", Coders.state(x), before);
            }
        });
    }
}
