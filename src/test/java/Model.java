import java.util.ArrayList;
import java.util.Arrays;
import java.util.Collections;
import java.util.List;

/** The document's definitions word by word and without any shortcut, to compare the class with. */
final class Model {
    private final int k;
    private final int c;
    private List<Integer> block = new ArrayList<>();
    private List<Integer> code = new ArrayList<>();

    Model(int symbols, int capacity) {
        k = Math.min(Math.max(symbols, 2), 16);
        c = Math.min(Math.max(capacity, 8), 24);
    }

    static Model with(int symbols, int capacity, int[] block, int[] code) {
        Model model = new Model(symbols, capacity);
        for (int s : block) {
            model.put(s);
        }
        for (int t : code) {
            model.putToken(t);
        }
        return model;
    }

    int limit(int which) {
        return which == 0 ? k : which == 1 ? c : -1;
    }

    int put(int s) {
        if (s < 0 || s >= k) {
            return -2;
        }
        if (block.size() == c) {
            return -3;
        }
        block.add(s);
        return 0;
    }

    void clear() {
        block.clear();
    }

    int length() {
        return block.size();
    }

    int at(int i) {
        return cell(block, i);
    }

    int factorStart(int j) {
        return cell(starts(), j);
    }

    int rowAt(int r) {
        return cell(rows(), r);
    }

    int transform() {
        List<Integer> starts = starts();
        List<Integer> next = new ArrayList<>();
        for (int p : rows()) {
            int s = startOfFactorWith(starts, p);
            next.add(p > s ? block.get(p - 1) : block.get(s + lengthOfFactorAt(s) - 1));
        }
        block = next;
        return starts.size();
    }

    int invert() {
        int n = block.size();
        int[] g = new int[n];
        for (int i = 0; i < n; i++) {
            for (int j = 0; j < n; j++) {
                if (block.get(j) < block.get(i) || block.get(j).equals(block.get(i)) && j < i) {
                    g[i]++;
                }
            }
        }
        List<List<Integer>> words = new ArrayList<>();
        for (int a = 0; a < n; a++) {
            List<Integer> members = new ArrayList<>();
            for (int i = a; !members.contains(i); i = g[i]) {
                members.add(i);
            }
            if (Collections.min(members) == a) {
                List<Integer> word = new ArrayList<>();
                for (int i : members) {
                    word.add(block.get(i));
                }
                Collections.reverse(word);
                words.add(word);
            }
        }
        Collections.reverse(words);
        List<Integer> next = new ArrayList<>();
        words.forEach(next::addAll);
        block = next;
        return words.size();
    }

    void front() {
        List<Integer> recent = freshList();
        for (int i = 0; i < block.size(); i++) {
            int place = recent.indexOf(block.get(i));
            recent.add(0, recent.remove(place));
            block.set(i, place);
        }
    }

    void unfront() {
        List<Integer> recent = freshList();
        for (int i = 0; i < block.size(); i++) {
            Integer symbol = recent.remove((int) block.get(i));
            recent.add(0, symbol);
            block.set(i, symbol);
        }
    }

    int pack() {
        code = new ArrayList<>();
        int i = 0;
        while (i < block.size()) {
            int end = i;
            while (end < block.size() && block.get(end) == 0) {
                end++;
            }
            if (end > i) {
                code.addAll(numeral(end - i));
                i = end;
            } else {
                code.add(block.get(i) + 1);
                i++;
            }
        }
        return code.size();
    }

    int unpack() {
        long total = 0;
        List<Integer> next = new ArrayList<>();
        int i = 0;
        while (i < code.size()) {
            int end = i;
            while (end < code.size() && code.get(end) < 2) {
                end++;
            }
            if (end > i) {
                long zeros = value(code.subList(i, end));
                total += zeros;
                // More than c symbols are refused below, so no more than that need be built.
                next.addAll(Collections.nCopies((int) Math.min(zeros, c), 0));
                i = end;
            } else {
                total++;
                next.add(code.get(i) - 1);
                i++;
            }
        }
        if (total > c) {
            return -4;
        }
        block = next;
        return (int) total;
    }

    int putToken(int t) {
        if (t < 0 || t > k) {
            return -2;
        }
        if (code.size() == c) {
            return -3;
        }
        code.add(t);
        return 0;
    }

    int codeLength() {
        return code.size();
    }

    int codeAt(int i) {
        return cell(code, i);
    }

    int[] state() {
        return Coders.state(k, c, array(block), array(code));
    }

    int[] block() {
        return array(block);
    }

    int[] code() {
        return array(code);
    }

    int[] factorStarts() {
        return array(starts());
    }

    int[] rowPositions() {
        return array(rows());
    }

    private static int[] array(List<Integer> list) {
        return list.stream().mapToInt(v -> v).toArray();
    }

    private static int cell(List<Integer> list, int i) {
        return i >= 0 && i < list.size() ? list.get(i) : -1;
    }

    private static boolean smaller(List<Integer> u, List<Integer> v) {
        for (int i = 0; i < u.size() && i < v.size(); i++) {
            if (!u.get(i).equals(v.get(i))) {
                return u.get(i) < v.get(i);
            }
        }
        return u.size() < v.size();
    }

    private static boolean prime(List<Integer> word) {
        for (int from = 1; from < word.size(); from++) {
            if (!smaller(word, word.subList(from, word.size()))) {
                return false;
            }
        }
        return !word.isEmpty();
    }

    private int lengthOfFactorAt(int s) {
        int end = block.size();
        while (!prime(block.subList(s, end))) {
            end--;
        }
        return end - s;
    }

    private List<Integer> starts() {
        List<Integer> starts = new ArrayList<>();
        for (int s = 0; s < block.size(); s += lengthOfFactorAt(s)) {
            starts.add(s);
        }
        return starts;
    }

    private static int startOfFactorWith(List<Integer> starts, int p) {
        int found = 0;
        for (int s : starts) {
            found = s <= p ? s : found;
        }
        return found;
    }

    private int[] endlessWord(List<Integer> starts, int p) {
        int s = startOfFactorWith(starts, p);
        int l = lengthOfFactorAt(s);
        int[] word = new int[48];
        for (int i = 0; i < word.length; i++) {
            word[i] = block.get(s + (p - s + i) % l);
        }
        return word;
    }

    private List<Integer> rows() {
        List<Integer> starts = starts();
        List<int[]> words = new ArrayList<>();
        List<Integer> rows = new ArrayList<>();
        for (int p = 0; p < block.size(); p++) {
            words.add(endlessWord(starts, p));
            rows.add(p);
        }
        // The sort is stable, so positions with the same word keep their order.
        rows.sort((p, q) -> Arrays.compare(words.get(p), words.get(q)));
        return rows;
    }

    private List<Integer> freshList() {
        List<Integer> list = new ArrayList<>();
        for (int s = 0; s < k; s++) {
            list.add(s);
        }
        return list;
    }

    private static long value(List<Integer> tokens) {
        long value = 0;
        for (int i = 0; i < tokens.size(); i++) {
            value += (long) (tokens.get(i) + 1) << i;
        }
        return value;
    }

    // The numeral is the only digit sequence with that value, so a search finds it.
    private static List<Integer> numeral(int z) {
        for (int digits = 1; ; digits++) {
            for (int bits = 0; bits < 1 << digits; bits++) {
                List<Integer> tokens = new ArrayList<>();
                for (int i = 0; i < digits; i++) {
                    tokens.add(bits >> i & 1);
                }
                if (value(tokens) == z) {
                    return tokens;
                }
            }
        }
    }
}
