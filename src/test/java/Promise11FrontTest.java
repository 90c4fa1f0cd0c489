import java.util.Arrays;

/** Promise 11: front. */
public final class Promise11FrontTest {
    private static final Check CHECK = new Check("Promise11FrontTest");

    public static void main(String[] args) {
        example();
        listAtTheBeginning();
        nothingIsCarriedOver();
        movedToPlaceZero();
        placesBeyondStay();
        everyBlock();
        lengthAndCodeStay();
        emptyBlock();
        CHECK.finish();
    }

    private static void due(int k, int[] block, int... after) {
        int[] code = {k, 1, 0};
        LyndonTransform x = Coders.make(k, 24, block, code);
        x.front();
        CHECK.due("K=" + k + " " + Arrays.toString(block) + " after front", Coders.state(x),
            Coders.state(k, 24, after, code));
    }

    private static void example() {
        CHECK.sentence("Example: K = 3, block 0 2 2 1 0 0 becomes 0 2 0 2 2 0.");
        due(3, Coders.of(0, 2, 2, 1, 0, 0), 0, 2, 0, 2, 2, 0);
    }

    private static void listAtTheBeginning() {
        CHECK.sentence("The list is 0, 1, .., K-1 at the beginning of every such call");
        for (int k = 2; k <= 16; k++) {
            for (int s = 0; s < k; s++) {
                due(k, Coders.of(s), s);
            }
            due(k, Coders.range(0, k - 1), Coders.range(0, k - 1));
            due(k, Coders.reversed(Coders.range(0, k - 1)), Coders.repeat(k - 1, k));
        }
    }

    private static void nothingIsCarriedOver() {
        CHECK.sentence("nothing of it is carried over from an earlier call");
        LyndonTransform x = Coders.make(4, 8, Coders.of(3, 2), Coders.NOTHING);
        x.front();
        CHECK.due("first front", Coders.block(x), Coders.of(3, 3));
        x.front();
        CHECK.due("second front", Coders.block(x), Coders.of(3, 0));
        x.unfront();
        x.unfront();
        x.front();
        CHECK.due("front after unfront", Coders.block(x), Coders.of(3, 3));
        States.eachLimits((k, c) -> {
            LyndonTransform used = Coders.make(k, c, States.mixed(k, c), Coders.NOTHING);
            used.front();
            used.clear();
            used.front();
            for (int s = 0; s < k; s++) {
                used.put(s);
                used.front();
                CHECK.due("K=" + k + " front of " + s + " alone", used.at(0), s);
                used.unfront();
                used.clear();
            }
        });
    }

    private static void movedToPlaceZero() {
        CHECK.sentence("that symbol is moved to place 0, and the symbols that stood at places 0 .. j-1 each move one "
            + "place along");
        for (int k = 2; k <= 16; k++) {
            due(k, Coders.repeat(k - 1, 24), Coders.join(Coders.of(k - 1), Coders.repeat(0, 23)));
            due(k, Coders.of(k - 1, k - 1, 0, k - 1), k - 1, 0, 1, 1);
            for (int s = 0; s < k; s++) {
                for (int other = 0; other < s; other++) {
                    due(k, Coders.of(s, other), s, other + 1);
                }
            }
        }
        due(2, Coders.of(1, 1, 0, 1, 0, 0, 1, 1), 1, 0, 1, 1, 1, 0, 1, 0);
    }

    private static void placesBeyondStay() {
        CHECK.sentence("Symbols at places beyond j keep their places.");
        for (int k = 2; k <= 16; k++) {
            for (int s = 0; s < k; s++) {
                for (int beyond = s + 1; beyond < k; beyond++) {
                    due(k, Coders.of(s, beyond), s, beyond);
                    due(k, Coders.of(s, s, beyond, beyond), s, 0, beyond, 0);
                }
            }
        }
        due(6, Coders.of(2, 5, 4, 3), 2, 5, 5, 5);
        due(6, Coders.of(2, 0, 1, 2), 2, 1, 2, 2);
        due(6, Coders.of(5, 0, 1, 2, 3, 4), 5, 1, 2, 3, 4, 5);
    }

    private static void everyBlock() {
        CHECK.sentence("For i = 0, 1, .., n-1 in this order");
        Dice dice = new Dice(11);
        for (int round = 0; round < 5000; round++) {
            int k = 2 + dice.below(15);
            int[] block = Words.any(dice, k, dice.below(25));
            Model model = Words.model(k, block);
            model.front();
            due(k, block, model.block());
        }
    }

    private static void lengthAndCodeStay() {
        CHECK.sentence("The length n and the code stay.");
        States.each((k, c, block, code) -> {
            LyndonTransform x = Coders.make(k, c, block, code);
            x.front();
            CHECK.due("length", x.length(), block.length);
            CHECK.due("code", Coders.code(x), code);
        });
        States.eachLimits((k, c) -> {
            for (int n = 0; n <= c; n++) {
                LyndonTransform x = Coders.make(k, c, States.mixed(k, n), Coders.NOTHING);
                x.front();
                CHECK.due("length", x.length(), n);
                CHECK.due("codeLength", x.codeLength(), 0);
            }
        });
    }

    private static void emptyBlock() {
        CHECK.sentence("An empty block stays empty.");
        States.eachLimits((k, c) -> {
            for (int[] code : States.codes(k, c)) {
                LyndonTransform x = Coders.make(k, c, Coders.repeat(1, c), code);
                x.front();
                x.clear();
                x.front();
                CHECK.due("state", Coders.state(x), Coders.state(k, c, Coders.NOTHING, code));
            }
        });
    }
}
