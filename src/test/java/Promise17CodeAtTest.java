/** Promise 17: codeAt. */
public final class Promise17CodeAtTest {
    private static final Check CHECK = new Check("Promise17CodeAtTest");

    public static void main(String[] args) {
        for (int m = 0; m <= 24; m++) {
            LyndonTransform x = Coders.make(16, 24, Coders.repeat(9, 24 - m), Coders.NOTHING);
            for (int i = 0; i < m; i++) {
                x.putToken((i * 7 + 16) % 17);
            }
            inAndOut(x, m);
        }
        oldCellsAreHidden();
        CHECK.finish();
    }

    private static void inAndOut(LyndonTransform x, int m) {
        int[] before = Coders.state(x);
        for (int i = 0; i < m; i++) {
            CHECK.due("m=" + m + " codeAt(" + i + ")", x.codeAt(i), (i * 7 + 16) % 17);
        }
        for (int i = m; i <= 26; i++) {
            CHECK.due("m=" + m + " codeAt(" + i + ")", x.codeAt(i), LyndonTransform.NONE);
        }
        for (int i : Coders.join(Coders.BELOW_ZERO, Coders.FAR_ABOVE)) {
            CHECK.due("m=" + m + " codeAt(" + i + ")", x.codeAt(i), LyndonTransform.NONE);
        }
        CHECK.due("state afterwards", Coders.state(x), before);
    }

    // What stood behind the end before must not be answered.
    private static void oldCellsAreHidden() {
        LyndonTransform x = Coders.make(4, 8, Coders.of(3), Coders.repeat(2, 8));
        x.pack();
        CHECK.due("codeAt(0) after pack", x.codeAt(0), 4);
        CHECK.due("codeAt(1) after pack", x.codeAt(1), LyndonTransform.NONE);
        x.clear();
        x.pack();
        CHECK.due("codeAt(0) of an empty code", x.codeAt(0), LyndonTransform.NONE);
    }
}
