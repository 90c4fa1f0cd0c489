import java.util.Arrays;
import java.util.stream.IntStream;

/** Promise 8: rowAt, and what the rows are. */
public final class Promise08RowAtTest {
    private static final Check CHECK = new Check("Promise08RowAtTest");

    public static void main(String[] args) {
        example();
        roundAndRound();
        smallerAtTheFirstDifference();
        equalWords();
        longAgreement();
        oneRowForEachPosition();
        everyOtherNumber();
        emptyBlock();
        changesNothing();
        CHECK.finish();
    }

    private static void due(int k, int[] block, int... rows) {
        LyndonTransform x = Coders.make(k, 24, block, Coders.of(0, k, 1));
        String name = Arrays.toString(block);
        CHECK.due(name + " rows", Coders.rows(x), rows);
        CHECK.due(name + " rowAt(n)", x.rowAt(block.length), LyndonTransform.NONE);
    }

    private static void example() {
        CHECK.sentence("Example: K = 3, block 1 0 2 0 2 0. Rows 0 .. 5 are the positions 5, 1, 3, 0, 2, 4.");
        due(3, Coders.of(1, 0, 2, 0, 2, 0), 5, 1, 3, 0, 2, 4);
    }

    private static void roundAndRound() {
        CHECK.sentence("that is, the factor read round and round, from p on");
        due(2, Coders.of(0, 1), 0, 1);
        due(2, Coders.of(1, 0), 1, 0);
        // The factor is read round, not on into the next one: 0 1 | 0 gives 0 1 0 1 .., 1 0 1 0 .., 0 0 0 ..
        due(2, Coders.of(0, 1, 0), 2, 0, 1);
        // 1 | 0 1: position 2 reads 1 0 1 0 .., so it stands before position 0, which reads 1 1 1 ..
        due(2, Coders.of(1, 0, 1), 1, 2, 0);
        // The turns of one factor: 00101, 01010, 10100, 01001, 10010.
        due(2, Coders.of(0, 0, 1, 0, 1), 0, 3, 1, 4, 2);
        // 0 1 1 | 0 1: 011, 110, 101, 01, 10: the second factor must be read more than once to tell.
        due(2, Coders.of(0, 1, 1, 0, 1), 3, 0, 4, 2, 1);
        // 0 0 1 | 0: the single letter goes on for ever.
        due(2, Coders.of(0, 0, 1, 0), 3, 0, 1, 2);
    }

    private static void smallerAtTheFirstDifference() {
        CHECK.sentence("Position p comes before position q when W(p) has the smaller number at the first place where "
            + "W(p) and W(q) differ");
        due(16, Coders.range(0, 15), Coders.range(0, 15));
        due(16, Coders.reversed(Coders.range(0, 15)), Coders.reversed(Coders.range(0, 15)));
        Dice dice = new Dice(8);
        for (int round = 0; round < 3000; round++) {
            int[] block = Words.any(dice, 2 + dice.below(15), dice.below(25));
            due(16, block, Words.model(16, block).rowPositions());
        }
        States.eachLimits((k, c) -> {
            for (int[] block : States.blocks(k, c)) {
                CHECK.due("rows", Coders.rows(Coders.make(k, c, block, Coders.NOTHING)),
                    Model.with(k, c, block, Coders.NOTHING).rowPositions());
            }
        });
    }

    private static void equalWords() {
        CHECK.sentence("or when they differ nowhere and p < q");
        for (int n = 1; n <= 24; n++) {
            due(3, Coders.repeat(2, n), Coders.range(0, n - 1));
        }
        for (int copies = 2; copies <= 12; copies++) {
            int[] pairs = IntStream.range(0, 2 * copies).map(i -> i % 2).toArray();
            due(2, pairs, byTurns(copies, 0, 1));
        }
        for (int copies = 2; copies <= 8; copies++) {
            int[] triples = IntStream.range(0, 3 * copies).map(i -> Coders.of(0, 2, 1)[i % 3]).toArray();
            due(3, triples, byTurns(copies, 0, 2, 1));
        }
        // The equal factors stand behind another one.
        due(3, Coders.of(1, 2, 0, 2, 0, 2, 0, 2), 2, 4, 6, 0, 3, 5, 7, 1);
        int[] twelve = {0, 0, 0, 1, 0, 0, 1, 0, 1, 0, 1, 1};
        int[] block = Coders.join(twelve, twelve);
        int[] rows = Coders.rows(Coders.make(2, 24, block, Coders.NOTHING));
        for (int r = 0; r < 24; r += 2) {
            CHECK.due("the other copy's row", rows[r + 1], rows[r] + 12);
        }
    }

    // Copies of one word whose turns, in their order, begin at these places of it.
    private static int[] byTurns(int copies, int... order) {
        return IntStream.of(order).flatMap(first -> IntStream.range(0, copies).map(i -> first + i * order.length))
            .toArray();
    }

    // Evenly spread words agree with each other for as many letters as words of their lengths can.
    private static void longAgreement() {
        CHECK.sentence("(Two of these words that agree in their first 48 letters agree everywhere.)");
        for (int length = 2; length <= 24; length++) {
            for (int l = 1; l < length; l++) {
                for (int ones = 0; ones <= l; ones++) {
                    evenWords(length, l, ones);
                }
            }
        }
        for (int ones = 1; ones < 24; ones++) {
            int[] block = Words.even(ones, 24);
            due(2, block, Words.model(2, block).rowPositions());
        }
    }

    private static void evenWords(int length, int l, int ones) {
        // Only the last few lengths in full, for the time that it takes.
        int step = length > 21 ? 1 : 3;
        for (int others = 0; others <= length - l; others += step) {
            int[] block = Coders.join(Words.even(ones, l), Words.even(others, length - l));
            due(2, block, Words.model(2, block).rowPositions());
        }
    }

    private static void oneRowForEachPosition() {
        CHECK.sentence("Row r (0 <= r < n) is the one position that has exactly r positions coming before it.");
        States.eachLimits((k, c) -> {
            for (int[] block : States.blocks(k, c)) {
                int[] rows = Coders.rows(Coders.make(k, c, block, Coders.NOTHING));
                Arrays.sort(rows);
                CHECK.due("positions", rows, IntStream.range(0, block.length).toArray());
            }
        });
    }

    private static void everyOtherNumber() {
        CHECK.sentence("For every other r it answers NONE");
        States.eachLimits((k, c) -> {
            for (int n = 1; n <= c; n++) {
                noneFor(Coders.make(k, c, States.mixed(k, n), Coders.repeat(k, c)), n);
            }
        });
    }

    private static void noneFor(LyndonTransform x, int n) {
        for (int r : Coders.outside(n)) {
            CHECK.due("n=" + n + " rowAt(" + r + ")", x.rowAt(r), LyndonTransform.NONE);
        }
    }

    private static void emptyBlock() {
        CHECK.sentence("on an empty block that is every r");
        States.eachLimits((k, c) -> {
            noneFor(new LyndonTransform(k, c), 0);
            LyndonTransform x = Coders.make(k, c, Coders.repeat(1, c), Coders.repeat(2, c));
            x.rowAt(0);
            x.clear();
            noneFor(x, 0);
            x = Coders.make(k, c, Coders.repeat(1, c), Coders.NOTHING);
            x.rowAt(0);
            x.unpack();
            noneFor(x, 0);
        });
    }

    private static void changesNothing() {
        CHECK.sentence("It changes nothing.");
        States.each((k, c, block, code) -> {
            LyndonTransform x = Coders.make(k, c, block, code);
            int[] before = Coders.state(k, c, block, code);
            for (int r : Coders.outside(0)) {
                x.rowAt(r);
                CHECK.due("state after rowAt(" + r + ")", Coders.state(x), before);
            }
        });
    }
}
