import java.util.stream.IntStream;

/** Makes objects in a given state, and reads their whole visible state. */
final class Coders {
    static final int[] NOTHING = {};
    static final int[] BELOW_ZERO = {-1, -2, -3, -4, -5, -24, -25, -256, -65536, -2147483647, Integer.MIN_VALUE};
    static final int[] FAR_ABOVE = {25, 26, 32, 48, 255, 256, 257, 65535, 65536, 65537, 1 << 30, Integer.MAX_VALUE};

    private Coders() {
    }

    static int[] of(int... values) {
        return values;
    }

    static int[] repeat(int value, int times) {
        return IntStream.range(0, times).map(i -> value).toArray();
    }

    static int[] join(int[]... parts) {
        return IntStream.range(0, parts.length).flatMap(i -> IntStream.of(parts[i])).toArray();
    }

    static LyndonTransform make(int symbols, int capacity, int[] block, int[] code) {
        LyndonTransform x = new LyndonTransform(symbols, capacity);
        for (int s : block) {
            mustBeOk(x.put(s));
        }
        for (int t : code) {
            mustBeOk(x.putToken(t));
        }
        return x;
    }

    private static void mustBeOk(int answer) {
        if (answer != LyndonTransform.OK) {
            throw new IllegalStateException("the test could not build its object: " + answer);
        }
    }

    static int[] block(LyndonTransform x) {
        return IntStream.range(0, x.length()).map(x::at).toArray();
    }

    static int[] code(LyndonTransform x) {
        return IntStream.range(0, x.codeLength()).map(x::codeAt).toArray();
    }

    static int[] state(int symbols, int capacity, int[] block, int[] code) {
        return join(of(symbols, capacity, block.length), block, of(code.length), code);
    }

    static int[] state(LyndonTransform x) {
        return state(x.limit(0), x.limit(1), block(x), code(x));
    }

    static int[] factorStarts(LyndonTransform x) {
        int count = 0;
        while (x.factorStart(count) != LyndonTransform.NONE && count <= 24) {
            count++;
        }
        return IntStream.range(0, count).map(x::factorStart).toArray();
    }

    static int[] rows(LyndonTransform x) {
        return IntStream.range(0, x.length()).map(x::rowAt).toArray();
    }
}
