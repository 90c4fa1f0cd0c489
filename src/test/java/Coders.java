import java.util.stream.IntStream;

/** Makes objects in a given state, and reads their whole visible state. */
final class Coders {
    static final int[] NOTHING = {};
    static final int[] BELOW_ZERO = {-1, -2, -3, -4, -5, -8, -16, -23, -24, -25, -127, -128, -129, -255, -256, -257,
        -32768, -65535, -65536, -65537, -1073741824, -2147483647, Integer.MIN_VALUE};
    static final int[] FAR_ABOVE = {25, 26, 31, 32, 33, 47, 48, 49, 127, 128, 255, 256, 257, 32767, 32768, 65535, 65536,
        65537, 1 << 24, 1 << 30, 2147483646, Integer.MAX_VALUE};

    private Coders() {
    }

    static int[] of(int... values) {
        return values;
    }

    static int[] repeat(int value, int times) {
        return IntStream.range(0, times).map(i -> value).toArray();
    }

    static int[] join(int[]... parts) {
        return IntStream.range(0, parts.length).flatMap(i -> IntStream.of(parts[i])).toArray();
    }

    /** The numbers from the first one on, the last one included. */
    static int[] range(int first, int last) {
        return IntStream.rangeClosed(first, last).toArray();
    }

    static int[] reversed(int[] list) {
        return IntStream.range(0, list.length).map(i -> list[list.length - 1 - i]).toArray();
    }

    /** Every number that is no place of a list of that length: near its ends and far from them. */
    static int[] outside(int length) {
        return join(BELOW_ZERO, range(length, 24), FAR_ABOVE);
    }

    static LyndonTransform make(int symbols, int capacity, int[] block, int[] code) {
        LyndonTransform x = new LyndonTransform(symbols, capacity);
        putAll(x, block);
        for (int t : code) {
            mustBeOk(x.putToken(t));
        }
        return x;
    }

    static void putAll(LyndonTransform x, int[] symbols) {
        for (int s : symbols) {
            mustBeOk(x.put(s));
        }
    }

    private static void mustBeOk(int answer) {
        if (answer != LyndonTransform.OK) {
            throw new IllegalStateException("the test could not build its object: " + answer);
        }
    }

    static int[] block(LyndonTransform x) {
        return IntStream.range(0, x.length()).map(x::at).toArray();
    }

    static int[] code(LyndonTransform x) {
        return IntStream.range(0, x.codeLength()).map(x::codeAt).toArray();
    }

    static int[] state(int symbols, int capacity, int[] block, int[] code) {
        return join(of(symbols, capacity, block.length), block, of(code.length), code);
    }

    static int[] state(LyndonTransform x) {
        return state(x.limit(0), x.limit(1), block(x), code(x));
    }

    /** The answers to all questions that can be asked without changing anything. */
    static int[] answers(LyndonTransform x) {
        int[] starts = factorStarts(x);
        return join(state(x), of(starts.length), starts, rows(x));
    }

    static int[] factorStarts(LyndonTransform x) {
        int count = 0;
        while (x.factorStart(count) != LyndonTransform.NONE && count <= 24) {
            count++;
        }
        return IntStream.range(0, count).map(x::factorStart).toArray();
    }

    static int[] rows(LyndonTransform x) {
        return IntStream.range(0, x.length()).map(x::rowAt).toArray();
    }
}
