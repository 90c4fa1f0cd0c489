import java.util.List;

/** Limits, blocks and codes that stand for every kind of state: empty, begun, nearly full, full. */
final class States {
    interface LimitsUser {
        void use(int k, int c);
    }

    interface StateUser {
        void use(int k, int c, int[] block, int[] code);
    }

    private States() {
    }

    /** Every K and C that the document allows. */
    static void eachLimits(LimitsUser user) {
        for (int k = 2; k <= 16; k++) {
            for (int c = 8; c <= 24; c++) {
                user.use(k, c);
            }
        }
    }

    /** Every kind of block with every kind of code, for K and C at their ends and between. */
    static void each(StateUser user) {
        for (int k : Coders.of(2, 3, 9, 15, 16)) {
            for (int c : Coders.of(8, 9, 17, 23, 24)) {
                each(k, c, user);
            }
        }
    }

    static void each(int k, int c, StateUser user) {
        for (int[] block : blocks(k, c)) {
            for (int[] code : codes(k, c)) {
                user.use(k, c, block, code);
            }
        }
    }

    static List<int[]> blocks(int k, int c) {
        return List.of(Coders.NOTHING, Coders.of(0), Coders.of(k - 1), Coders.of(k - 1, 0), mixed(k, c / 2),
            mixed(k, c - 1), mixed(k, c), Coders.repeat(0, c), Coders.repeat(k - 1, c), copies(c));
    }

    /** The code that stands for exactly C symbols is among them, and the one that stands for one more. */
    static List<int[]> codes(int k, int c) {
        return List.of(Coders.NOTHING, Coders.of(0), Coders.of(k), Coders.of(k, 1, 2), mixed(k + 1, c - 1),
            Numerals.TOKENS[c], Numerals.TOKENS[c + 1], Coders.repeat(k, c), Coders.repeat(1, c), mixed(k + 1, c));
    }

    /** A list without much order in which every number below 'kinds' has its turn. */
    static int[] mixed(int kinds, int length) {
        int[] list = new int[length];
        for (int i = 0; i < length; i++) {
            list[i] = (i * i + 3 * i / 2 + kinds - 1) % kinds;
        }
        return list;
    }

    // Pieces 0 0 1 one after the other: equal factors, and perhaps a cut-off one at the end.
    private static int[] copies(int length) {
        int[] list = new int[length];
        for (int i = 2; i < length; i += 3) {
            list[i] = 1;
        }
        return list;
    }
}
