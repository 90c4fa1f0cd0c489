/** The numerals of the first values, written down by hand from promise 13. */
final class Numerals {
    /** The numeral of z stands under z. */
    static final int[][] TOKENS = {
        {},
        {0}, {1},
        {0, 0}, {1, 0}, {0, 1}, {1, 1},
        {0, 0, 0}, {1, 0, 0}, {0, 1, 0}, {1, 1, 0}, {0, 0, 1}, {1, 0, 1}, {0, 1, 1}, {1, 1, 1},
        {0, 0, 0, 0}, {1, 0, 0, 0}, {0, 1, 0, 0}, {1, 1, 0, 0}, {0, 0, 1, 0}, {1, 0, 1, 0}, {0, 1, 1, 0},
        {1, 1, 1, 0}, {0, 0, 0, 1}, {1, 0, 0, 1}, {0, 1, 0, 1},
    };

    private Numerals() {
    }
}
