/** Promise 6: at. */
public final class Promise06AtTest {
    private static final Check CHECK = new Check("Promise06AtTest");

    public static void main(String[] args) {
        for (int n = 0; n <= 24; n++) {
            LyndonTransform x = new LyndonTransform(16, 24);
            for (int i = 0; i < n; i++) {
                x.put((i * 7 + 15) % 16);
            }
            inAndOut(x, n);
        }
        oldCellsAreHidden();
        CHECK.finish();
    }

    private static void inAndOut(LyndonTransform x, int n) {
        int[] before = Coders.state(x);
        for (int i = 0; i < n; i++) {
            CHECK.due("n=" + n + " at(" + i + ")", x.at(i), (i * 7 + 15) % 16);
        }
        for (int i = n; i <= 26; i++) {
            CHECK.due("n=" + n + " at(" + i + ")", x.at(i), LyndonTransform.NONE);
        }
        for (int i : Coders.join(Coders.BELOW_ZERO, Coders.FAR_ABOVE)) {
            CHECK.due("n=" + n + " at(" + i + ")", x.at(i), LyndonTransform.NONE);
        }
        CHECK.due("state afterwards", Coders.state(x), before);
    }

    // What stood behind the end before must not be answered.
    private static void oldCellsAreHidden() {
        LyndonTransform x = Coders.make(4, 8, Coders.repeat(3, 8), Coders.of(4, 4));
        x.clear();
        x.put(2);
        CHECK.due("at(0) after clear and put", x.at(0), 2);
        CHECK.due("at(1) after clear and put", x.at(1), LyndonTransform.NONE);
        x.unpack();
        CHECK.due("at(1) after unpack", x.at(1), 3);
        CHECK.due("at(2) after unpack", x.at(2), LyndonTransform.NONE);
    }
}
