/** Promise 16: codeLength. */
public final class Promise16CodeLengthTest {
    private static final Check CHECK = new Check("Promise16CodeLengthTest");

    public static void main(String[] args) {
        fromZeroToCapacity();
        neverBeyondTheCapacity();
        followsEveryCall();
        changesNothing();
        CHECK.finish();
    }

    private static void fromZeroToCapacity() {
        CHECK.sentence("codeLength() answers m, a number in 0 .. C.");
        States.eachLimits((k, c) -> {
            // The block is as long as the code is not, so that the two lengths can't be mistaken for each other.
            LyndonTransform x = Coders.make(k, c, Coders.repeat(1, c), Coders.NOTHING);
            CHECK.due("codeLength of an empty code", x.codeLength(), 0);
            for (int m = 1; m <= c; m++) {
                x.putToken(m % (k + 1));
                CHECK.due("codeLength", x.codeLength(), m);
            }
            x = Coders.make(k, c, Coders.NOTHING, Coders.repeat(k, c));
            CHECK.due("codeLength of a full code beside an empty block", x.codeLength(), c);
        });
    }

    private static void neverBeyondTheCapacity() {
        CHECK.sentence("a number in 0 .. C");
        States.eachLimits((k, c) -> {
            LyndonTransform x = Coders.make(k, c, Coders.repeat(1, c), Coders.repeat(0, c));
            x.putToken(0);
            CHECK.due("codeLength after FULL", x.codeLength(), c);
            x.putToken(k + 1);
            CHECK.due("codeLength after BAD", x.codeLength(), c);
            x.pack();
            CHECK.due("codeLength after pack of C symbols 1", x.codeLength(), c);
            x.clear();
            x.pack();
            x.pack();
            CHECK.due("codeLength after pack of nothing", x.codeLength(), 0);
        });
    }

    private static void followsEveryCall() {
        CHECK.sentence("codeLength() answers m (after every other call)");
        States.each((k, c, block, code) -> {
            for (Calls.Call call : Calls.all(k, c)) {
                LyndonTransform x = Coders.make(k, c, block, code);
                Model model = Model.with(k, c, block, code);
                call.onCoder().applyAsInt(x);
                call.onModel().applyAsInt(model);
                CHECK.due("codeLength after " + call.name(), x.codeLength(), model.codeLength());
            }
        });
    }

    private static void changesNothing() {
        CHECK.sentence("It changes nothing.");
        States.each((k, c, block, code) -> {
            LyndonTransform x = Coders.make(k, c, block, code);
            CHECK.due("codeLength", x.codeLength(), code.length);
            CHECK.due("codeLength once more", x.codeLength(), code.length);
            CHECK.due("state afterwards", Coders.state(x), Coders.state(k, c, block, code));
        });
    }
}
