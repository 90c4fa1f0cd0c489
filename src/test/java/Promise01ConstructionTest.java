/** Promise 1: construction and what always holds. */
public final class Promise01ConstructionTest {
    private static final Check CHECK = new Check("Promise01ConstructionTest");

    public static void main(String[] args) {
        constants();
        clamping();
        limitsNeverChange();
        questionsChangeNothing();
        answersDoNotHangOnThePast();
        objectsAreApart();
        CHECK.finish();
    }

    private static void constants() {
        CHECK.due("OK", LyndonTransform.OK, 0);
        CHECK.due("NONE", LyndonTransform.NONE, -1);
        CHECK.due("BAD", LyndonTransform.BAD, -2);
        CHECK.due("FULL", LyndonTransform.FULL, -3);
        CHECK.due("TOO_LONG", LyndonTransform.TOO_LONG, -4);
    }

    private static void clamping() {
        int[] asked = {Integer.MIN_VALUE, -65534, -256, -1, 0, 1, 2, 3, 7, 8, 9, 15, 16, 17, 23, 24, 25, 26,
            100, 256, 264, 65536, 65552, Integer.MAX_VALUE};
        for (int symbols : asked) {
            for (int capacity : asked) {
                LyndonTransform x = new LyndonTransform(symbols, capacity);
                int k = symbols < 2 ? 2 : symbols > 16 ? 16 : symbols;
                int c = capacity < 8 ? 8 : capacity > 24 ? 24 : capacity;
                String name = "new(" + symbols + ", " + capacity + ")";
                CHECK.due(name, Coders.state(x), Coders.state(k, c, Coders.NOTHING, Coders.NOTHING));
                CHECK.due(name + " highest symbol", x.put(k - 1), LyndonTransform.OK);
                CHECK.due(name + " symbol K", x.put(k), LyndonTransform.BAD);
                CHECK.due(name + " room", room(x), c - 1);
            }
        }
    }

    private static int room(LyndonTransform x) {
        int room = 0;
        while (room < 100 && x.put(0) == LyndonTransform.OK) {
            room++;
        }
        return room;
    }

    private static void limitsNeverChange() {
        LyndonTransform x = Coders.make(5, 11, Coders.of(4, 0, 3, 0, 0), Coders.of(5, 1));
        x.transform();
        x.invert();
        x.front();
        x.unfront();
        x.unpack();
        x.pack();
        x.clear();
        CHECK.due("K afterwards", x.limit(0), 5);
        CHECK.due("C afterwards", x.limit(1), 11);
    }

    private static void questionsChangeNothing() {
        int[] block = {2, 1, 0, 2, 0, 1, 1, 0};
        int[] code = {0, 3, 1, 1};
        LyndonTransform x = Coders.make(3, 8, block, code);
        int[] before = Coders.state(3, 8, block, code);
        for (int i = -3; i <= 26; i++) {
            x.limit(i);
            x.at(i);
            x.factorStart(i);
            x.rowAt(i);
            x.codeAt(i);
            x.length();
            x.codeLength();
            CHECK.due("state after the questions with " + i, Coders.state(x), before);
        }
    }

    // The same lists are reached once directly and once after much else; all answers must agree.
    private static void answersDoNotHangOnThePast() {
        int[] block = {1, 0, 2, 0, 2, 0};
        int[] code = {3, 0, 2};
        LyndonTransform fresh = Coders.make(3, 9, block, code);
        LyndonTransform used = Coders.make(3, 9, Coders.of(2, 2, 2, 1, 1, 1, 0, 0, 2), Coders.of(1, 0, 0, 3));
        used.rowAt(4);
        used.factorStart(1);
        used.transform();
        used.front();
        used.invert();
        used.unfront();
        used.clear();
        for (int s : Coders.of(2, 0, 1)) {
            used.put(s);
        }
        used.pack();
        used.clear();
        for (int s : block) {
            used.put(s);
        }
        CHECK.due("code of the used object", Coders.code(used), code);
        CHECK.due("factors", Coders.factorStarts(used), Coders.factorStarts(fresh));
        CHECK.due("rows", Coders.rows(used), Coders.rows(fresh));
        CHECK.due("transform", used.transform(), fresh.transform());
        CHECK.due("after transform", Coders.state(used), Coders.state(fresh));
        used.front();
        fresh.front();
        CHECK.due("after front", Coders.state(used), Coders.state(fresh));
        used.unfront();
        fresh.unfront();
        CHECK.due("after unfront", Coders.state(used), Coders.state(fresh));
        CHECK.due("invert", used.invert(), fresh.invert());
        CHECK.due("after invert", Coders.state(used), Coders.state(fresh));
        CHECK.due("unpack", used.unpack(), fresh.unpack());
        CHECK.due("after unpack", Coders.state(used), Coders.state(fresh));
    }

    private static void objectsAreApart() {
        LyndonTransform one = Coders.make(3, 9, Coders.of(1, 0, 2), Coders.of(3));
        LyndonTransform other = Coders.make(16, 24, Coders.of(15, 14), Coders.of(16, 0));
        other.transform();
        other.pack();
        CHECK.due("first object", Coders.state(one), Coders.state(3, 9, Coders.of(1, 0, 2), Coders.of(3)));
        one.clear();
        CHECK.due("second object", other.length(), 2);
    }
}
