import java.util.Arrays;
import java.util.function.IntUnaryOperator;
import java.util.stream.IntStream;

/** Promise 1: construction and what always holds. */
public final class Promise01ConstructionTest {
    private static final Check CHECK = new Check("Promise01ConstructionTest");
    private static final int[] BETWEEN = Coders.range(0, 24);

    public static void main(String[] args) {
        constants();
        everyPairIsAccepted();
        tooFewSymbols();
        tooManySymbols();
        tooSmallACapacity();
        tooGreatACapacity();
        valuesInRangeStay();
        listsAreEmpty();
        limitsNeverChange();
        answersDoNotHangOnThePast();
        answersHangOnEveryLimit();
        questionsChangeNothing();
        otherListStays();
        refusedCallsChangeNothing();
        objectsAreApart();
        CHECK.finish();
    }

    private static void constants() {
        CHECK.sentence("Public constants, all int");
        CHECK.due("OK", LyndonTransform.OK, 0);
        CHECK.due("NONE", LyndonTransform.NONE, -1);
        CHECK.due("BAD", LyndonTransform.BAD, -2);
        CHECK.due("FULL", LyndonTransform.FULL, -3);
        CHECK.due("TOO_LONG", LyndonTransform.TOO_LONG, -4);
    }

    private static void everyPairIsAccepted() {
        CHECK.sentence("accepts every pair of int values");
        int[] numbers = Coders.join(BETWEEN, roundNumbers());
        for (int symbols : numbers) {
            for (int capacity : numbers) {
                LyndonTransform x = new LyndonTransform(symbols, capacity);
                int k = symbols < 2 ? 2 : symbols > 16 ? 16 : symbols;
                int c = capacity < 8 ? 8 : capacity > 24 ? 24 : capacity;
                CHECK.due("new(" + symbols + ", " + capacity + ")", Coders.state(x),
                    Coders.state(k, c, Coders.NOTHING, Coders.NOTHING));
            }
        }
    }

    // The powers of two and their neighbours, above zero and below: there a narrower number would wrap around.
    private static int[] roundNumbers() {
        return IntStream.range(5, 32).flatMap(e -> IntStream.of((1 << e) - 1, 1 << e, (1 << e) + 1, -(1 << e),
            -(1 << e) - 1, (1 << e) + 12, -(1 << e) + 12)).toArray();
    }

    private static void tooFewSymbols() {
        CHECK.sentence("a value below 2 becomes 2");
        for (int symbols : Coders.join(Coders.of(1, 0), Coders.BELOW_ZERO)) {
            for (int capacity : Coders.of(Integer.MIN_VALUE, 8, 24, Integer.MAX_VALUE)) {
                symbolsAre(symbols, capacity, 2);
            }
        }
    }

    private static void tooManySymbols() {
        CHECK.sentence("a value above 16 becomes 16");
        for (int symbols : Coders.join(Coders.range(17, 24), Coders.FAR_ABOVE)) {
            for (int capacity : Coders.of(Integer.MIN_VALUE, 8, 24, Integer.MAX_VALUE)) {
                symbolsAre(symbols, capacity, 16);
            }
        }
    }

    private static void symbolsAre(int symbols, int capacity, int k) {
        LyndonTransform x = new LyndonTransform(symbols, capacity);
        String name = "new(" + symbols + ", " + capacity + ")";
        CHECK.due(name + ".limit(0)", x.limit(0), k);
        CHECK.due(name + " highest symbol", x.put(k - 1), LyndonTransform.OK);
        CHECK.due(name + " symbol K", x.put(k), LyndonTransform.BAD);
        CHECK.due(name + " highest token", x.putToken(k), LyndonTransform.OK);
        CHECK.due(name + " token K + 1", x.putToken(k + 1), LyndonTransform.BAD);
    }

    private static void tooSmallACapacity() {
        CHECK.sentence("a value below 8 becomes 8");
        for (int capacity : Coders.join(Coders.range(0, 7), Coders.BELOW_ZERO)) {
            for (int symbols : Coders.of(Integer.MIN_VALUE, 2, 16, Integer.MAX_VALUE)) {
                capacityIs(symbols, capacity, 8);
            }
        }
    }

    private static void tooGreatACapacity() {
        CHECK.sentence("a value above 24 becomes 24");
        for (int capacity : Coders.FAR_ABOVE) {
            for (int symbols : Coders.of(Integer.MIN_VALUE, 2, 16, Integer.MAX_VALUE)) {
                capacityIs(symbols, capacity, 24);
            }
        }
    }

    private static void capacityIs(int symbols, int capacity, int c) {
        LyndonTransform x = new LyndonTransform(symbols, capacity);
        String name = "new(" + symbols + ", " + capacity + ")";
        CHECK.due(name + ".limit(1)", x.limit(1), c);
        CHECK.due(name + " room in the block", room(x::put), c);
        CHECK.due(name + " room in the code", room(x::putToken), c);
    }

    private static int room(IntUnaryOperator put) {
        int room = 0;
        while (room < 100 && put.applyAsInt(1) == LyndonTransform.OK) {
            room++;
        }
        return room;
    }

    private static void valuesInRangeStay() {
        CHECK.sentence("clamped into 2 .. 16; clamped into 8 .. 24");
        States.eachLimits((k, c) -> {
            symbolsAre(k, c, k);
            capacityIs(k, c, c);
        });
    }

    private static void listsAreEmpty() {
        CHECK.sentence("Block and code are empty: n = 0 and m = 0.");
        States.eachLimits((k, c) -> {
            LyndonTransform x = new LyndonTransform(k, c);
            CHECK.due("length()", x.length(), 0);
            CHECK.due("codeLength()", x.codeLength(), 0);
            for (int i : Coders.outside(0)) {
                CHECK.due("at(" + i + ")", x.at(i), LyndonTransform.NONE);
                CHECK.due("codeAt(" + i + ")", x.codeAt(i), LyndonTransform.NONE);
                CHECK.due("factorStart(" + i + ")", x.factorStart(i), LyndonTransform.NONE);
                CHECK.due("rowAt(" + i + ")", x.rowAt(i), LyndonTransform.NONE);
            }
            CHECK.due("transform()", x.transform(), 0);
            CHECK.due("invert()", x.invert(), 0);
            CHECK.due("unpack()", x.unpack(), 0);
            CHECK.due("pack()", x.pack(), 0);
        });
    }

    private static void limitsNeverChange() {
        CHECK.sentence("K and C never change afterwards.");
        States.each((k, c, block, code) -> {
            for (Calls.Call call : Calls.all(k, c)) {
                LyndonTransform x = Coders.make(k, c, block, code);
                call.onCoder().applyAsInt(x);
                CHECK.due("K after " + call.name(), x.limit(0), k);
                CHECK.due("C after " + call.name(), x.limit(1), c);
            }
        });
    }

    // One object has a long past, the other is new, and both hold the same lists: they must answer alike.
    private static void answersDoNotHangOnThePast() {
        CHECK.sentence("Every answer depends only on K, C, the block and the code as they are at the call "
            + "(and on the arguments of the call).");
        Dice dice = new Dice(1);
        States.eachLimits((k, c) -> {
            LyndonTransform used = new LyndonTransform(k, c);
            for (int round = 0; round < 5; round++) {
                past(used, dice, k, c);
                LyndonTransform fresh = Coders.make(k, c, Coders.block(used), Coders.code(used));
                CHECK.due("answers", Coders.answers(used), Coders.answers(fresh));
                CHECK.due("answers once more", Coders.answers(used), Coders.answers(fresh));
                for (Calls.Call call : Calls.all(k, c)) {
                    CHECK.due(call.name(), call.onCoder().applyAsInt(used), call.onCoder().applyAsInt(fresh));
                    CHECK.due("lists after " + call.name(), Coders.state(used), Coders.state(fresh));
                }
            }
        });
    }

    private static void past(LyndonTransform x, Dice dice, int k, int c) {
        x.clear();
        x.pack();
        Coders.putAll(x, Words.any(dice, k, dice.below(c + 1)));
        for (int t : Words.any(dice, k + 1, dice.below(c + 1))) {
            x.putToken(t);
        }
        for (int i = 0; i < 8; i++) {
            Calls.all(k, c).get(dice.below(Calls.all(k, c).size())).onCoder().applyAsInt(x);
        }
    }

    // The same lists under other limits are not the same state.
    private static void answersHangOnEveryLimit() {
        States.eachLimits((k, c) -> {
            LyndonTransform x = Coders.make(k, c, Coders.repeat(0, 8), Coders.of(0, 0, 0));
            CHECK.due("put(K - 1)", x.put(k - 1), c > 8 ? LyndonTransform.OK : LyndonTransform.FULL);
            x = Coders.make(k, c, Coders.repeat(1, 2), Numerals.TOKENS[16]);
            CHECK.due("unpack() of 16", x.unpack(), c >= 16 ? 16 : LyndonTransform.TOO_LONG);
            x = Coders.make(k, c, Coders.repeat(k - 1, 2), Coders.NOTHING);
            x.unfront();
            CHECK.due("unfront() of K - 1, K - 1", Coders.block(x), Coders.of(k - 1, k - 2));
        });
    }

    private static void questionsChangeNothing() {
        CHECK.sentence("No call changes anything but what its promise says it changes");
        States.each((k, c, block, code) -> {
            LyndonTransform x = Coders.make(k, c, block, code);
            int[] before = Coders.answers(x);
            for (Calls.Call call : Calls.questionsOnly(k, c)) {
                call.onCoder().applyAsInt(x);
                CHECK.due("state after " + call.name(), Coders.state(x), Coders.state(k, c, block, code));
            }
            CHECK.due("answers after all questions", Coders.answers(x), before);
        });
    }

    // Each call that changes a list leaves the other one alone.
    private static void otherListStays() {
        States.each((k, c, block, code) -> {
            for (Calls.Call call : Calls.all(k, c)) {
                LyndonTransform x = Coders.make(k, c, block, code);
                call.onCoder().applyAsInt(x);
                if (call.name().startsWith("pack") || call.name().startsWith("putToken")) {
                    CHECK.due("block after " + call.name(), Coders.block(x), block);
                } else {
                    CHECK.due("code after " + call.name(), Coders.code(x), code);
                }
            }
        });
    }

    private static void refusedCallsChangeNothing() {
        CHECK.sentence("a refused call changes nothing");
        States.each((k, c, block, code) -> {
            LyndonTransform x = Coders.make(k, c, block, code);
            int[] before = Coders.answers(x);
            for (int wrong : Coders.join(Coders.BELOW_ZERO, Coders.range(k + 1, 24), Coders.FAR_ABOVE)) {
                refused(x, before, "put(" + wrong + ")", x.put(wrong), LyndonTransform.BAD);
                refused(x, before, "putToken(" + wrong + ")", x.putToken(wrong), LyndonTransform.BAD);
            }
            for (int right = 0; right < k; right++) {
                if (block.length == c) {
                    refused(x, before, "put(" + right + ")", x.put(right), LyndonTransform.FULL);
                }
                if (code.length == c) {
                    refused(x, before, "putToken(" + right + ")", x.putToken(right), LyndonTransform.FULL);
                }
            }
            if (Model.with(k, c, block, code).unpack() == LyndonTransform.TOO_LONG) {
                refused(x, before, "unpack()", x.unpack(), LyndonTransform.TOO_LONG);
            }
            CHECK.due("answers after refused calls", Coders.answers(x), before);
        });
    }

    private static void refused(LyndonTransform x, int[] before, String call, int got, int want) {
        CHECK.due(call, got, want);
        int[] state = Coders.state(x);
        CHECK.due("state after " + call, state, Arrays.copyOf(before, state.length));
    }

    private static void objectsAreApart() {
        CHECK.sentence("It holds two lists and nothing else that can be seen");
        LyndonTransform one = Coders.make(3, 9, Coders.of(1, 0, 2), Coders.of(3));
        LyndonTransform other = Coders.make(16, 24, Coders.of(15, 14), Coders.of(16, 0));
        other.transform();
        other.pack();
        other.front();
        CHECK.due("first object", Coders.state(one), Coders.state(3, 9, Coders.of(1, 0, 2), Coders.of(3)));
        one.clear();
        one.pack();
        CHECK.due("second object", Coders.state(other),
            Coders.state(16, 24, Coders.of(14, 15), Coders.of(15, 16)));
    }
}
