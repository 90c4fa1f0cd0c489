/** A fixed sequence of numbers without pattern, so that every run of a test is the same run. */
final class Dice {
    private long state;

    Dice(long seed) {
        state = seed * 2862933555777941757L + 3037000493L;
    }

    int below(int bound) {
        state = state * 6364136223846793005L + 1442695040888963407L;
        return (int) ((state >>> 33) % bound);
    }

    boolean oneIn(int n) {
        return below(n) == 0;
    }
}
