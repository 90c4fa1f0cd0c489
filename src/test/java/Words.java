/** Words that are hard for a block coder: much repeated, and alike for as long as can be. */
final class Words {
    private Words() {
    }

    static Model model(int symbols, int[] block) {
        return Model.with(symbols, 24, block, Coders.NOTHING);
    }

    /** A word of that length that is partly made of copies of its own earlier pieces. */
    static int[] any(Dice dice, int symbols, int length) {
        int[] word = new int[length];
        int kinds = 1 + dice.below(symbols);
        int copyFrom = -1;
        for (int i = 0; i < length; i++) {
            if (i > 0 && dice.oneIn(5)) {
                copyFrom = dice.oneIn(3) ? -1 : dice.below(i);
            }
            word[i] = copyFrom >= 0 ? word[copyFrom++] : dice.below(kinds);
        }
        return word;
    }

    /** The prime word of that length over 0 and 1 whose turns are as evenly spread as can be. */
    static int[] even(int ones, int length) {
        int[] word = new int[length];
        for (int i = 0; i < length; i++) {
            word[i] = (i + 1) * ones / length - i * ones / length;
        }
        return word;
    }
}
