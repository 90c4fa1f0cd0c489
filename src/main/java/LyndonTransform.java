/** A small lossless block coder; the promise numbers in the comments are those of DOC.md. */
public final class LyndonTransform {
    public static final int OK = 0;
    public static final int NONE = -1;
    public static final int BAD = -2;
    public static final int FULL = -3;
    public static final int TOO_LONG = -4;

    private static final int LEAST_SYMBOLS = 2;
    private static final int MOST_SYMBOLS = 16;
    private static final int LEAST_CAPACITY = 8;
    private static final int MOST_CAPACITY = 24;

    // Promise 8: two endless words that agree this far agree everywhere.
    private static final int LETTERS_THAT_DECIDE = 48;

    // Tokens below this one are digits of a numeral, the others are shifted symbols.
    private static final int FIRST_SYMBOL_TOKEN = 2;

    private final int symbolCount;
    private final int capacity;

    private final int[] block = new int[MOST_CAPACITY];
    private int blockLength = 0;

    private final int[] code = new int[MOST_CAPACITY];
    private int tokenCount = 0;

    // Working space only: every call that reads one of these arrays fills it first,
    // so that no answer can hang on an earlier call.
    private final int[] factorStarts = new int[MOST_CAPACITY];
    private final int[] firstOfFactor = new int[MOST_CAPACITY];
    private final int[] lastOfFactor = new int[MOST_CAPACITY];
    private final int[] rows = new int[MOST_CAPACITY];
    private final int[] successor = new int[MOST_CAPACITY];
    private final boolean[] visited = new boolean[MOST_CAPACITY];
    private final int[] nextBlock = new int[MOST_CAPACITY];
    private final int[] recent = new int[MOST_SYMBOLS];

    public LyndonTransform(int symbols, int capacity) {
        this.symbolCount = clamp(symbols, LEAST_SYMBOLS, MOST_SYMBOLS);
        this.capacity = clamp(capacity, LEAST_CAPACITY, MOST_CAPACITY);
    }

    public int limit(int which) {
        if (which == 0) {
            return symbolCount;
        }
        if (which == 1) {
            return capacity;
        }
        return NONE;
    }

    public int put(int s) {
        if (s < 0 || s >= symbolCount) {
            return BAD;
        }
        if (blockLength >= capacity) {
            return FULL;
        }
        appendSymbol(s);
        return OK;
    }

    public void clear() {
        blockLength = 0;
    }

    public int length() {
        return blockLength;
    }

    public int at(int i) {
        if (i < 0 || i >= blockLength) {
            return NONE;
        }
        return block[i];
    }

    public int factorStart(int j) {
        int factors = cutIntoFactors();
        if (j < 0 || j >= factors) {
            return NONE;
        }
        return factorStarts[j];
    }

    public int rowAt(int r) {
        if (r < 0 || r >= blockLength) {
            return NONE;
        }
        cutIntoFactors();
        orderRows();
        return rows[r];
    }

    public int transform() {
        int factors = cutIntoFactors();
        orderRows();
        for (int r = 0; r < blockLength; r++) {
            nextBlock[r] = lastLetter(rows[r]);
        }
        takeNextBlock();
        return factors;
    }

    public int invert() {
        findSuccessors();
        int cycles = 0;
        int unwritten = blockLength;
        // Cycles are met by rising smallest member and are due by falling one,
        // so the new block is written from its end.
        for (int i = 0; i < blockLength; i++) {
            if (!visited[i]) {
                unwritten = writeCycleBackwards(i, unwritten);
                cycles++;
            }
        }
        takeNextBlock();
        return cycles;
    }

    public void front() {
        resetRecent();
        for (int i = 0; i < blockLength; i++) {
            int place = placeOf(block[i]);
            bringToFront(place);
            block[i] = place;
        }
    }

    public void unfront() {
        resetRecent();
        for (int i = 0; i < blockLength; i++) {
            block[i] = bringToFront(block[i]);
        }
    }

    public int pack() {
        tokenCount = 0;
        int zeros = 0;
        for (int i = 0; i < blockLength; i++) {
            if (block[i] == 0) {
                zeros++;
            } else {
                appendNumeral(zeros);
                zeros = 0;
                appendToken(block[i] + 1);
            }
        }
        appendNumeral(zeros);
        return tokenCount;
    }

    public int unpack() {
        // Measured before anything is written, because a refused call changes nothing.
        int decoded = decodedLength();
        if (decoded > capacity) {
            return TOO_LONG;
        }
        blockLength = 0;
        int weight = 1;
        for (int i = 0; i < tokenCount; i++) {
            if (code[i] >= FIRST_SYMBOL_TOKEN) {
                appendSymbol(code[i] - 1);
                weight = 1;
            } else {
                appendZeros((code[i] + 1) * weight);
                weight = weight * 2;
            }
        }
        return decoded;
    }

    public int putToken(int t) {
        if (t < 0 || t > symbolCount) {
            return BAD;
        }
        if (tokenCount >= capacity) {
            return FULL;
        }
        appendToken(t);
        return OK;
    }

    public int codeLength() {
        return tokenCount;
    }

    public int codeAt(int i) {
        if (i < 0 || i >= tokenCount) {
            return NONE;
        }
        return code[i];
    }

    private static int clamp(int value, int least, int most) {
        if (value < least) {
            return least;
        }
        if (value > most) {
            return most;
        }
        return value;
    }

    private void appendSymbol(int symbol) {
        if (blockLength < capacity) {
            block[blockLength] = symbol;
            blockLength++;
        }
    }

    private void appendToken(int token) {
        if (tokenCount < capacity) {
            code[tokenCount] = token;
            tokenCount++;
        }
    }

    private void takeNextBlock() {
        for (int i = 0; i < blockLength; i++) {
            block[i] = nextBlock[i];
        }
    }

    private int cutIntoFactors() {
        int factors = 0;
        int start = 0;
        int end = 0;
        for (int p = 0; p < blockLength; p++) {
            if (p == end) {
                start = p;
                end = p + longestPrimeLength(p);
                factorStarts[factors] = start;
                factors++;
            }
            firstOfFactor[p] = start;
            lastOfFactor[p] = end - 1;
        }
        return factors;
    }

    // Duval's scan. What has been read is a prime word of length 'prime', repeated and
    // perhaps cut off: a greater letter makes all of it one prime word, a smaller one
    // lets no longer prefix be prime.
    private int longestPrimeLength(int start) {
        int prime = 1;
        for (int i = start + 1; i < blockLength; i++) {
            int expected = block[i - prime];
            if (block[i] < expected) {
                return prime;
            }
            if (block[i] > expected) {
                prime = i - start + 1;
            }
        }
        return prime;
    }

    private void orderRows() {
        for (int p = 0; p < blockLength; p++) {
            int row = countBefore(p);
            rows[row] = p;
        }
    }

    private int countBefore(int p) {
        int count = 0;
        for (int q = 0; q < blockLength; q++) {
            if (comesBefore(q, p)) {
                count++;
            }
        }
        return count;
    }

    private boolean comesBefore(int p, int q) {
        int u = p;
        int v = q;
        for (int k = 0; k < LETTERS_THAT_DECIDE; k++) {
            if (block[u] != block[v]) {
                return block[u] < block[v];
            }
            u = roundInFactor(u);
            v = roundInFactor(v);
        }
        return p < q;
    }

    private int roundInFactor(int p) {
        return p == lastOfFactor[p] ? firstOfFactor[p] : p + 1;
    }

    private int lastLetter(int p) {
        return p == firstOfFactor[p] ? block[lastOfFactor[p]] : block[p - 1];
    }

    private void findSuccessors() {
        for (int i = 0; i < blockLength; i++) {
            successor[i] = sortedPlace(i);
            visited[i] = false;
        }
    }

    private int sortedPlace(int i) {
        int count = 0;
        for (int j = 0; j < blockLength; j++) {
            if (block[j] < block[i] || (block[j] == block[i] && j < i)) {
                count++;
            }
        }
        return count;
    }

    // Answers how many cells of the new block are unwritten afterwards.
    private int writeCycleBackwards(int smallest, int unwritten) {
        int i = smallest;
        for (int left = unwritten; left > 0; left--) {
            if (visited[i]) {
                return left;
            }
            visited[i] = true;
            nextBlock[left - 1] = block[i];
            i = successor[i];
        }
        return 0;
    }

    private void resetRecent() {
        for (int symbol = 0; symbol < symbolCount; symbol++) {
            recent[symbol] = symbol;
        }
    }

    private int placeOf(int symbol) {
        int last = symbolCount - 1;
        for (int place = 0; place < last; place++) {
            if (recent[place] == symbol) {
                return place;
            }
        }
        // The list always holds every symbol, so one not met so far stands last.
        return last;
    }

    private int bringToFront(int place) {
        int symbol = recent[place];
        for (int k = place; k > 0; k--) {
            recent[k] = recent[k - 1];
        }
        recent[0] = symbol;
        return symbol;
    }

    private void appendNumeral(int zeros) {
        int rest = zeros;
        // A numeral never has more digits than its value, so the bound cuts nothing off.
        for (int digits = 0; digits < zeros && rest > 0; digits++) {
            int digit = rest % 2 == 1 ? 1 : 2;
            appendToken(digit - 1);
            rest = (rest - digit) / 2;
        }
    }

    private void appendZeros(int count) {
        for (int k = 0; k < count; k++) {
            appendSymbol(0);
        }
    }

    // At most 2 * (2^24 - 1), from 24 tokens 1: no overflow.
    private int decodedLength() {
        int total = 0;
        int weight = 1;
        for (int i = 0; i < tokenCount; i++) {
            if (code[i] >= FIRST_SYMBOL_TOKEN) {
                total++;
                weight = 1;
            } else {
                total += (code[i] + 1) * weight;
                weight = weight * 2;
            }
        }
        return total;
    }
}
