/** Promise 5: length. */
public final class Promise05LengthTest {
    private static final Check CHECK = new Check("Promise05LengthTest");

    public static void main(String[] args) {
        for (int c = 8; c <= 24; c++) {
            LyndonTransform x = Coders.make(3, c, Coders.NOTHING, Coders.of(1, 3, 2, 2, 0));
            CHECK.due("length of an empty block", x.length(), 0);
            for (int n = 1; n <= c; n++) {
                x.put(n % 3);
                CHECK.due("length", x.length(), n);
                CHECK.due("length once more", x.length(), n);
            }
            x.put(0);
            CHECK.due("length after FULL", x.length(), c);
            x.put(3);
            CHECK.due("length after BAD", x.length(), c);
            x.transform();
            CHECK.due("length after transform", x.length(), c);
            x.invert();
            CHECK.due("length after invert", x.length(), c);
            x.front();
            CHECK.due("length after front", x.length(), c);
            x.unfront();
            CHECK.due("length after unfront", x.length(), c);
            x.unpack();
            CHECK.due("length after unpack", x.length(), 6);
            CHECK.due("code stays", x.codeLength(), 5);
            x.clear();
            CHECK.due("length after clear", x.length(), 0);
        }
        CHECK.finish();
    }
}
