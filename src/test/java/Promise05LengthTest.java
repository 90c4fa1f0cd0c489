/** Promise 5: length. */
public final class Promise05LengthTest {
    private static final Check CHECK = new Check("Promise05LengthTest");

    public static void main(String[] args) {
        fromZeroToCapacity();
        neverBeyondTheCapacity();
        followsEveryCall();
        changesNothing();
        CHECK.finish();
    }

    private static void fromZeroToCapacity() {
        CHECK.sentence("length() answers n, a number in 0 .. C.");
        States.eachLimits((k, c) -> {
            // The code is as long as the block is not, so that the two lengths can't be mistaken for each other.
            LyndonTransform x = Coders.make(k, c, Coders.NOTHING, Coders.repeat(k, c));
            CHECK.due("length of an empty block", x.length(), 0);
            for (int n = 1; n <= c; n++) {
                x.put(n % k);
                CHECK.due("length", x.length(), n);
            }
            x = Coders.make(k, c, Coders.repeat(1, c), Coders.NOTHING);
            CHECK.due("length of a full block beside an empty code", x.length(), c);
        });
    }

    private static void neverBeyondTheCapacity() {
        CHECK.sentence("a number in 0 .. C");
        States.eachLimits((k, c) -> {
            LyndonTransform x = Coders.make(k, c, Coders.repeat(1, c), Numerals.TOKENS[c + 1]);
            x.put(0);
            CHECK.due("length after FULL", x.length(), c);
            x.put(k);
            CHECK.due("length after BAD", x.length(), c);
            x.unpack();
            CHECK.due("length after TOO_LONG", x.length(), c);
            x.clear();
            x.clear();
            CHECK.due("length after two clears", x.length(), 0);
        });
    }

    private static void followsEveryCall() {
        CHECK.sentence("length() answers n (after every other call)");
        States.each((k, c, block, code) -> {
            for (Calls.Call call : Calls.all(k, c)) {
                LyndonTransform x = Coders.make(k, c, block, code);
                Model model = Model.with(k, c, block, code);
                call.onCoder().applyAsInt(x);
                call.onModel().applyAsInt(model);
                CHECK.due("length after " + call.name(), x.length(), model.length());
            }
        });
    }

    private static void changesNothing() {
        CHECK.sentence("It changes nothing.");
        States.each((k, c, block, code) -> {
            LyndonTransform x = Coders.make(k, c, block, code);
            CHECK.due("length", x.length(), block.length);
            CHECK.due("length once more", x.length(), block.length);
            CHECK.due("state afterwards", Coders.state(x), Coders.state(k, c, block, code));
        });
    }
}
