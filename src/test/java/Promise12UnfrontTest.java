import java.util.Arrays;

/** Promise 12: unfront. */
public final class Promise12UnfrontTest {
    private static final Check CHECK = new Check("Promise12UnfrontTest");

    public static void main(String[] args) {
        example();
        listAtTheBeginning();
        nothingIsCarriedOver();
        movedToPlaceZero();
        placesBeyondStay();
        everyBlock();
        lengthAndCodeStay();
        emptyBlock();
        undoesFront();
        CHECK.finish();
    }

    private static void due(int k, int[] block, int... after) {
        int[] code = {0, 1, k};
        LyndonTransform x = Coders.make(k, 24, block, code);
        x.unfront();
        CHECK.due("K=" + k + " " + Arrays.toString(block) + " after unfront", Coders.state(x),
            Coders.state(k, 24, after, code));
    }

    private static void example() {
        CHECK.sentence("Example: K = 3, block 0 2 0 2 2 0 becomes 0 2 2 1 0 0.");
        due(3, Coders.of(0, 2, 0, 2, 2, 0), 0, 2, 2, 1, 0, 0);
    }

    private static void listAtTheBeginning() {
        CHECK.sentence("The list is 0, 1, .., K-1 at the beginning of every such call");
        for (int k = 2; k <= 16; k++) {
            for (int place = 0; place < k; place++) {
                due(k, Coders.of(place), place);
            }
            due(k, Coders.range(0, k - 1), Coders.range(0, k - 1));
            // Always the last place: the list is gone through from its end, and then again.
            int[] after = new int[24];
            for (int i = 0; i < 24; i++) {
                after[i] = k - 1 - i % k;
            }
            due(k, Coders.repeat(k - 1, 24), after);
        }
    }

    private static void nothingIsCarriedOver() {
        CHECK.sentence("nothing of it is carried over from an earlier call");
        LyndonTransform x = Coders.make(4, 8, Coders.of(3, 3), Coders.NOTHING);
        x.unfront();
        CHECK.due("first unfront", Coders.block(x), Coders.of(3, 2));
        x.unfront();
        CHECK.due("second unfront", Coders.block(x), Coders.of(3, 1));
        x.front();
        x.unfront();
        CHECK.due("unfront after front", Coders.block(x), Coders.of(3, 1));
        States.eachLimits((k, c) -> {
            LyndonTransform used = Coders.make(k, c, States.mixed(k, c), Coders.NOTHING);
            used.unfront();
            used.clear();
            used.unfront();
            for (int place = 0; place < k; place++) {
                used.put(place);
                used.unfront();
                CHECK.due("K=" + k + " unfront of " + place + " alone", used.at(0), place);
                used.front();
                used.clear();
            }
        });
    }

    private static void movedToPlaceZero() {
        CHECK.sentence("that symbol is moved to place 0, and the symbols that stood at places 0 .. j-1 each move one "
            + "place along");
        for (int k = 2; k <= 16; k++) {
            for (int place = 0; place < k; place++) {
                due(k, Coders.of(place, 0, 0), place, place, place);
                for (int other = 1; other <= place; other++) {
                    due(k, Coders.of(place, other), place, other - 1);
                }
            }
        }
        due(2, Coders.of(1, 1, 1, 0, 1), 1, 0, 1, 1, 0);
    }

    private static void placesBeyondStay() {
        CHECK.sentence("Symbols at places beyond j keep their places.");
        for (int k = 2; k <= 16; k++) {
            for (int place = 0; place < k; place++) {
                for (int beyond = place + 1; beyond < k; beyond++) {
                    due(k, Coders.of(place, beyond), place, beyond);
                    due(k, Coders.of(place, 0, beyond, 0), place, place, beyond, beyond);
                }
            }
        }
        due(6, Coders.of(2, 5, 1, 2, 3), 2, 5, 2, 0, 1);
    }

    private static void everyBlock() {
        CHECK.sentence("For i = 0, 1, .., n-1 in this order");
        Dice dice = new Dice(12);
        for (int round = 0; round < 5000; round++) {
            int k = 2 + dice.below(15);
            int[] block = Words.any(dice, k, dice.below(25));
            Model model = Words.model(k, block);
            model.unfront();
            due(k, block, model.block());
        }
    }

    private static void lengthAndCodeStay() {
        CHECK.sentence("The length n and the code stay.");
        States.each((k, c, block, code) -> {
            LyndonTransform x = Coders.make(k, c, block, code);
            x.unfront();
            CHECK.due("length", x.length(), block.length);
            CHECK.due("code", Coders.code(x), code);
        });
        States.eachLimits((k, c) -> {
            for (int n = 0; n <= c; n++) {
                LyndonTransform x = Coders.make(k, c, States.mixed(k, n), Coders.NOTHING);
                x.unfront();
                CHECK.due("length", x.length(), n);
                CHECK.due("codeLength", x.codeLength(), 0);
            }
        });
    }

    private static void emptyBlock() {
        CHECK.sentence("An empty block stays empty.");
        States.eachLimits((k, c) -> {
            for (int[] code : States.codes(k, c)) {
                LyndonTransform x = Coders.make(k, c, Coders.repeat(1, c), code);
                x.unfront();
                x.clear();
                x.unfront();
                CHECK.due("state", Coders.state(x), Coders.state(k, c, Coders.NOTHING, code));
            }
        });
    }

    private static void undoesFront() {
        CHECK.sentence("unfront() undoes front().");
        Dice dice = new Dice(112);
        for (int round = 0; round < 5000; round++) {
            int k = 2 + dice.below(15);
            int c = 8 + dice.below(17);
            thereAndBack(k, c, Words.any(dice, k, dice.below(c + 1)));
        }
        States.eachLimits((k, c) -> {
            for (int[] block : States.blocks(k, c)) {
                thereAndBack(k, c, block);
            }
        });
    }

    private static void thereAndBack(int k, int c, int[] block) {
        LyndonTransform x = Coders.make(k, c, block, Coders.NOTHING);
        x.front();
        x.unfront();
        CHECK.due("K=" + k + " front, unfront", Coders.block(x), block);
    }
}
