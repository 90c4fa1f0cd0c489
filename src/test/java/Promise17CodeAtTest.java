/** Promise 17: codeAt. */
public final class Promise17CodeAtTest {
    private static final Check CHECK = new Check("Promise17CodeAtTest");

    public static void main(String[] args) {
        everyPlace();
        everyOtherNumber();
        emptyCode();
        oldCellsAreHidden();
        changesNothing();
        CHECK.finish();
    }

    private static void everyPlace() {
        CHECK.sentence("codeAt(int i) answers c[i] if 0 <= i < m.");
        States.eachLimits((k, c) -> {
            for (int m = 1; m <= c; m++) {
                int[] code = States.mixed(k + 1, m);
                LyndonTransform x = Coders.make(k, c, Coders.of(1, 1, 1), code);
                for (int i = 0; i < m; i++) {
                    CHECK.due("m=" + m + " codeAt(" + i + ")", x.codeAt(i), code[i]);
                }
            }
        });
    }

    private static void everyOtherNumber() {
        CHECK.sentence("For every other i it answers NONE");
        States.eachLimits((k, c) -> {
            for (int m = 1; m <= c; m++) {
                noneFor(Coders.make(k, c, Coders.repeat(1, c), Coders.repeat(2, m)), m);
            }
        });
    }

    private static void emptyCode() {
        CHECK.sentence("on an empty code that is every i");
        States.eachLimits((k, c) -> {
            noneFor(new LyndonTransform(k, c), 0);
            noneFor(Coders.make(k, c, Coders.repeat(1, c), Coders.NOTHING), 0);
            LyndonTransform x = Coders.make(k, c, Coders.NOTHING, Coders.repeat(2, c));
            x.pack();
            noneFor(x, 0);
        });
    }

    private static void noneFor(LyndonTransform x, int m) {
        for (int i : Coders.outside(m)) {
            CHECK.due("m=" + m + " codeAt(" + i + ")", x.codeAt(i), LyndonTransform.NONE);
        }
    }

    private static void oldCellsAreHidden() {
        CHECK.sentence("For every other i it answers NONE (also where a longer code had tokens before)");
        States.eachLimits((k, c) -> {
            LyndonTransform x = Coders.make(k, c, Coders.of(k - 1), Coders.repeat(2, c));
            x.pack();
            CHECK.due("codeAt(0) after pack", x.codeAt(0), k);
            noneFor(x, 1);
            x.putToken(0);
            CHECK.due("codeAt(1) after putToken", x.codeAt(1), 0);
            noneFor(x, 2);
        });
    }

    private static void changesNothing() {
        CHECK.sentence("It changes nothing.");
        States.each((k, c, block, code) -> {
            LyndonTransform x = Coders.make(k, c, block, code);
            int[] before = Coders.state(k, c, block, code);
            for (int i : Coders.outside(0)) {
                x.codeAt(i);
                CHECK.due("state after codeAt(" + i + ")", Coders.state(x), before);
            }
        });
    }
}
