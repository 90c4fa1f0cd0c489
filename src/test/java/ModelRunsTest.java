/** Long runs of calls in any order, each answer and the whole state after it compared with the model. */
public final class ModelRunsTest {
    private static final int CALLS = 250;

    private final Check check;
    private final Dice dice;
    private final LyndonTransform x;
    private final Model model;

    private ModelRunsTest(Check check, Dice dice, int symbols, int capacity) {
        this.check = check;
        this.dice = dice;
        x = new LyndonTransform(symbols, capacity);
        model = new Model(symbols, capacity);
    }

    public static void main(String[] args) {
        Check check = new Check("ModelRunsTest");
        for (int symbols = 1; symbols <= 17; symbols++) {
            for (int capacity = 7; capacity <= 25; capacity++) {
                Dice dice = new Dice(symbols * 1000L + capacity);
                new ModelRunsTest(check, dice, symbols, capacity).run(symbols + "," + capacity);
            }
        }
        check.finish();
    }

    private void run(String name) {
        for (int i = 0; i < CALLS; i++) {
            call(name + " call " + i + " ");
            check.due(name + " state after call " + i, Coders.state(x), model.state());
        }
    }

    private void call(String at) {
        switch (dice.below(24)) {
            case 0 -> fillBlock(at);
            case 1 -> fillCode(at);
            case 2, 3 -> {
                int s = number(-1, model.limit(0));
                check.due(at + "put(" + s + ")", x.put(s), model.put(s));
            }
            case 4, 5 -> {
                int t = number(-1, model.limit(0) + 1);
                check.due(at + "putToken(" + t + ")", x.putToken(t), model.putToken(t));
            }
            case 6 -> {
                x.clear();
                model.clear();
            }
            case 7 -> check.due(at + "length", x.length(), model.length());
            case 8 -> check.due(at + "codeLength", x.codeLength(), model.codeLength());
            case 9, 10 -> check.due(at + "transform", x.transform(), model.transform());
            case 11, 12 -> check.due(at + "invert", x.invert(), model.invert());
            case 13, 14 -> {
                x.front();
                model.front();
            }
            case 15, 16 -> {
                x.unfront();
                model.unfront();
            }
            case 17, 18 -> check.due(at + "pack", x.pack(), model.pack());
            case 19 -> check.due(at + "unpack", x.unpack(), model.unpack());
            default -> ask(at);
        }
    }

    private void ask(String at) {
        int i = number(-2, 26);
        check.due(at + "limit(" + i + ")", x.limit(i), model.limit(i));
        check.due(at + "at(" + i + ")", x.at(i), model.at(i));
        check.due(at + "codeAt(" + i + ")", x.codeAt(i), model.codeAt(i));
        check.due(at + "factorStart(" + i + ")", x.factorStart(i), model.factorStart(i));
        check.due(at + "rowAt(" + i + ")", x.rowAt(i), model.rowAt(i));
        check.due(at + "all factors", Coders.factorStarts(x), model.factorStarts());
        check.due(at + "all rows", Coders.rows(x), model.rowPositions());
    }

    // Few different symbols give long factors, many zeros give long numerals.
    private void fillBlock(String at) {
        int kinds = 1 + dice.below(model.limit(0));
        int count = dice.below(model.limit(1) + 3);
        for (int i = 0; i < count; i++) {
            int s = dice.oneIn(2) ? 0 : dice.below(kinds);
            check.due(at + "put(" + s + ")", x.put(s), model.put(s));
        }
    }

    private void fillCode(String at) {
        int count = dice.below(model.limit(1) + 3);
        for (int i = 0; i < count; i++) {
            int t = dice.oneIn(3) ? dice.below(2) : dice.below(model.limit(0) + 1);
            check.due(at + "putToken(" + t + ")", x.putToken(t), model.putToken(t));
        }
        // A full code would refuse all further tokens for the rest of the run: pack makes room.
        if (dice.oneIn(2)) {
            check.due(at + "unpack", x.unpack(), model.unpack());
            x.clear();
            model.clear();
            check.due(at + "pack", x.pack(), model.pack());
        }
    }

    private int number(int least, int most) {
        if (dice.oneIn(12)) {
            return dice.oneIn(2) ? Coders.BELOW_ZERO[dice.below(Coders.BELOW_ZERO.length)]
                : Coders.FAR_ABOVE[dice.below(Coders.FAR_ABOVE.length)];
        }
        return least + dice.below(most - least + 1);
    }
}
