import java.util.List;

/** Promise 1: "All calls are allowed in all states, in any order, with any arguments." */
public final class AnyOrderTest {
    private static final Check CHECK = new Check("AnyOrderTest");
    private static final String ALLOWED = "All calls are allowed in all states, in any order, with any arguments.";
    private static final int MORE_THAN_SIXTEEN_BITS = 70000;

    public static void main(String[] args) {
        everyCallInEveryState();
        everyTwoCalls();
        everyThreeCalls();
        veryManyCalls();
        CHECK.finish();
    }

    private static void everyCallInEveryState() {
        CHECK.sentence(ALLOWED + " (each in each state)");
        States.each((k, c, block, code) -> {
            for (Calls.Call call : Calls.all(k, c)) {
                inOrder(k, c, block, code, call);
            }
        });
    }

    private static void everyTwoCalls() {
        CHECK.sentence(ALLOWED + " (each after each)");
        for (int[] limits : new int[][] {{2, 8}, {3, 9}, {16, 24}}) {
            List<Calls.Call> calls = Calls.all(limits[0], limits[1]);
            int[] block = States.mixed(limits[0], limits[1] - 1);
            int[] code = {0, 2, 1, 2};
            for (Calls.Call first : calls) {
                for (Calls.Call second : calls) {
                    inOrder(limits[0], limits[1], block, code, first, second);
                    inOrder(limits[0], limits[1], Coders.NOTHING, Coders.NOTHING, first, second);
                }
            }
        }
    }

    private static void everyThreeCalls() {
        CHECK.sentence(ALLOWED + " (each after each two)");
        List<Calls.Call> calls = Calls.all(3, 8);
        for (Calls.Call first : calls) {
            for (Calls.Call second : calls) {
                for (Calls.Call third : calls) {
                    inOrder(3, 8, Coders.of(1, 0, 2, 0, 2, 0, 0), Coders.of(3, 1, 0), first, second, third);
                }
            }
        }
    }

    private static void inOrder(int k, int c, int[] block, int[] code, Calls.Call... calls) {
        LyndonTransform x = Coders.make(k, c, block, code);
        Model model = Model.with(k, c, block, code);
        String past = "";
        for (Calls.Call call : calls) {
            past += " " + call.name();
            CHECK.due(k + "," + c + past, call.onCoder().applyAsInt(x), call.onModel().applyAsInt(model));
            CHECK.due(k + "," + c + past + " leaves", Coders.state(x), model.state());
        }
    }

    // A number that counts the calls, or any other one that only grows, would show here.
    private static void veryManyCalls() {
        CHECK.sentence(ALLOWED + " (after very many)");
        int[] block = {1, 0, 2, 0, 2, 0, 0, 0};
        int[] code = {3, 0, 3, 2, 2, 2, 2, 2};
        LyndonTransform x = Coders.make(3, 8, block, code);
        int wrong = 0;
        for (int i = 0; i < MORE_THAN_SIXTEEN_BITS; i++) {
            wrong += x.put(3) == LyndonTransform.BAD && x.put(0) == LyndonTransform.FULL ? 0 : 1;
            wrong += x.putToken(4) == LyndonTransform.BAD && x.putToken(0) == LyndonTransform.FULL ? 0 : 1;
            wrong += x.transform() == x.invert() ? 0 : 1;
            x.front();
            x.unfront();
            wrong += x.factorStart(1) == 1 && x.rowAt(0) == 5 ? 0 : 1;
        }
        CHECK.due("wrong answers", wrong, 0);
        CHECK.due("lists afterwards", Coders.state(x), Coders.state(3, 8, block, code));
        for (int i = 0; i < MORE_THAN_SIXTEEN_BITS; i++) {
            wrong += x.pack() == 7 ? 0 : 1;
            x.clear();
            wrong += x.put(2) == LyndonTransform.OK && x.length() == 1 ? 0 : 1;
            wrong += x.unpack() == 8 && x.codeLength() == 7 ? 0 : 1;
        }
        CHECK.due("wrong answers in all", wrong, 0);
        CHECK.due("lists at the end", Coders.state(x), Coders.state(3, 8, block, Coders.of(2, 0, 3, 0, 3, 0, 0)));
    }
}
