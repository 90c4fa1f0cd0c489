/** Promise 16: codeLength. */
public final class Promise16CodeLengthTest {
    private static final Check CHECK = new Check("Promise16CodeLengthTest");

    public static void main(String[] args) {
        for (int c = 8; c <= 24; c++) {
            LyndonTransform x = Coders.make(3, c, Coders.of(2, 0, 0, 0, 0, 1), Coders.NOTHING);
            CHECK.due("codeLength of an empty code", x.codeLength(), 0);
            for (int m = 1; m <= c; m++) {
                x.putToken(m % 4);
                CHECK.due("codeLength", x.codeLength(), m);
                CHECK.due("codeLength once more", x.codeLength(), m);
            }
            x.putToken(3);
            CHECK.due("codeLength after FULL", x.codeLength(), c);
            x.putToken(4);
            CHECK.due("codeLength after BAD", x.codeLength(), c);
            x.transform();
            x.invert();
            x.front();
            x.unfront();
            x.unpack();
            CHECK.due("codeLength after calls on the block", x.codeLength(), c);
            x.clear();
            CHECK.due("codeLength after clear", x.codeLength(), c);
            for (int s : Coders.of(2, 0, 0, 0, 0, 1)) {
                x.put(s);
            }
            x.pack();
            CHECK.due("codeLength after pack", x.codeLength(), 4);
            CHECK.due("the block stays", x.length(), 6);
        }
        CHECK.finish();
    }
}
