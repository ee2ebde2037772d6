import java.util.Map;
import java.util.TreeMap;

/**
 * The document's words, told a second time and in another way: every call that may be refused works on
 * a copy of all blocks, and what would be given back is the difference of two used rooms.
 */
final class Model {
    private int[] blocks = new int[32];

    private static boolean in(int value, int least, int most) {
        return least <= value && value <= most;
    }

    private static int room(int content) {
        String digits = String.format("%04o", content);
        return content == 0 ? 0 : digits.replaceAll("(.)\\1*", "x").length() + 1;
    }

    private static Map<Integer, Integer> tally(int[] state) {
        Map<Integer, Integer> counts = new TreeMap<>();
        for (int content : state) {
            counts.merge(content, 1, Integer::sum);
        }
        return counts;
    }

    private static int usedOf(int[] state) {
        int sum = 0;
        for (int content : tally(state).keySet()) {
            sum += room(content);
        }
        return sum;
    }

    private int become(int[] next, int answer) {
        if (usedOf(next) > 48) {
            return -2;
        }
        blocks = next;
        return answer;
    }

    int write(int n, int content) {
        if (!in(n, 0, 31) || !in(content, 0, 4095)) {
            return -1;
        }
        int[] next = blocks.clone();
        next[n] = content;
        return become(next, blocks[n]);
    }

    int read(int n) {
        return in(n, 0, 31) ? blocks[n] : -1;
    }

    int patch(int n, int i, int d) {
        if (!in(n, 0, 31) || !in(i, 0, 3) || !in(d, 0, 7)) {
            return -1;
        }
        int[] weight = {1, 8, 64, 512};
        int before = blocks[n] / weight[i] % 8;
        int[] next = blocks.clone();
        next[n] = blocks[n] - before * weight[i] + d * weight[i];
        return become(next, before);
    }

    int spread(int n, int m, int many) {
        if (!in(n, 0, 31) || !in(m, 0, 31) || !in(many, 1, 8)) {
            return -1;
        }
        int[] next = blocks.clone();
        int got = 0;
        for (int k = n; k < n + many && k / 8 == n / 8; k++) {
            next[k] = blocks[m];
            got++;
        }
        return become(next, got);
    }

    int clone(int v, int w) {
        if (!in(v, 0, 3) || !in(w, 0, 3)) {
            return -1;
        }
        int[] next = blocks.clone();
        System.arraycopy(blocks, 8 * w, next, 8 * v, 8);
        return become(next, differences(blocks, next));
    }

    int erase(int v) {
        if (!in(v, 0, 3)) {
            return -1;
        }
        int[] next = without(8 * v, 8);
        return become(next, differences(blocks, next));
    }

    int holders(int content) {
        return in(content, 0, 4095) ? tally(blocks).getOrDefault(content, 0) : -1;
    }

    int distinct() {
        Map<Integer, Integer> counts = tally(blocks);
        counts.remove(0);
        return counts.size();
    }

    int used() {
        return usedOf(blocks);
    }

    int saved() {
        int sum = 0;
        for (int content : blocks) {
            sum += room(content);
        }
        return sum - used();
    }

    int alone(int n) {
        return in(n, 0, 31) ? used() - usedOf(without(n, 1)) : -1;
    }

    int aloneIn(int v) {
        return in(v, 0, 3) ? used() - usedOf(without(8 * v, 8)) : -1;
    }

    int twin(int n) {
        if (!in(n, 0, 31)) {
            return -1;
        }
        for (int k = 0; k < 32; k++) {
            if (k != n && blocks[k] == blocks[n]) {
                return k;
            }
        }
        return -4;
    }

    int favourite() {
        Map<Integer, Integer> counts = tally(blocks);
        counts.remove(0);
        int best = -4;
        for (int content : counts.keySet()) {
            if (best == -4 || counts.get(content) > counts.get(best)) {
                best = content;
            }
        }
        return best;
    }

    private int[] without(int first, int many) {
        int[] next = blocks.clone();
        java.util.Arrays.fill(next, first, first + many, 0);
        return next;
    }

    private static int differences(int[] a, int[] b) {
        int count = 0;
        for (int n = 0; n < 32; n++) {
            count += a[n] != b[n] ? 1 : 0;
        }
        return count;
    }
}
