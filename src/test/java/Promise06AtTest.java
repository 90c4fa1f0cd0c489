/** Promise 6: at. */
public final class Promise06AtTest {
    private static final Check CHECK = new Check("Promise06AtTest");

    public static void main(String[] args) {
        everyPlace();
        everyOtherNumber();
        emptyBlock();
        oldCellsAreHidden();
        changesNothing();
        CHECK.finish();
    }

    private static void everyPlace() {
        CHECK.sentence("at(int i) answers b[i] if 0 <= i < n.");
        States.eachLimits((k, c) -> {
            for (int n = 1; n <= c; n++) {
                int[] block = States.mixed(k, n);
                LyndonTransform x = Coders.make(k, c, block, Coders.of(k, k, k));
                for (int i = 0; i < n; i++) {
                    CHECK.due("n=" + n + " at(" + i + ")", x.at(i), block[i]);
                }
            }
        });
    }

    private static void everyOtherNumber() {
        CHECK.sentence("For every other i it answers NONE");
        States.eachLimits((k, c) -> {
            for (int n = 1; n <= c; n++) {
                noneFor(Coders.make(k, c, Coders.repeat(1, n), Coders.repeat(2, c)), n);
            }
        });
    }

    private static void emptyBlock() {
        CHECK.sentence("on an empty block that is every i");
        States.eachLimits((k, c) -> {
            noneFor(new LyndonTransform(k, c), 0);
            LyndonTransform x = Coders.make(k, c, Coders.repeat(1, c), Coders.repeat(2, c));
            x.clear();
            noneFor(x, 0);
            x = Coders.make(k, c, Coders.repeat(1, c), Coders.NOTHING);
            x.unpack();
            noneFor(x, 0);
        });
    }

    private static void noneFor(LyndonTransform x, int n) {
        for (int i : Coders.outside(n)) {
            CHECK.due("n=" + n + " at(" + i + ")", x.at(i), LyndonTransform.NONE);
        }
    }

    private static void oldCellsAreHidden() {
        CHECK.sentence("For every other i it answers NONE (also where a longer block had symbols before)");
        States.eachLimits((k, c) -> {
            LyndonTransform x = Coders.make(k, c, Coders.repeat(1, c), Coders.of(2, 2));
            x.clear();
            x.put(0);
            CHECK.due("at(0) after clear and put", x.at(0), 0);
            noneFor(x, 1);
            x.unpack();
            CHECK.due("at(1) after unpack", x.at(1), 1);
            noneFor(x, 2);
        });
    }

    private static void changesNothing() {
        CHECK.sentence("It changes nothing.");
        States.each((k, c, block, code) -> {
            LyndonTransform x = Coders.make(k, c, block, code);
            int[] before = Coders.state(k, c, block, code);
            for (int i : Coders.outside(0)) {
                x.at(i);
                CHECK.due("state after at(" + i + ")", Coders.state(x), before);
            }
        });
    }
}
