/** Blocks of four digits on volumes that share what is the same. */
public final class DedupBlocks {
    public static final int BAD_ARG = -1;
    public static final int FULL = -2;
    public static final int NONE = -4;

    private static final int VOLUMES = 4;
    private static final int BLOCKS_PER_VOLUME = 8;
    private static final int BLOCKS = VOLUMES * BLOCKS_PER_VOLUME;
    private static final int DIGITS = 4;
    private static final int DIGIT_BITS = 3;
    private static final int DIGIT_VALUES = 8;
    private static final int CONTENTS = 4096;
    private static final int MOST_ROOM = 48;

    // The contents of the blocks are the whole state: with 32 blocks, whatever
    // is asked is counted afresh, so that no tally can drift away from them.
    private final int[] contents = new int[BLOCKS];

    public DedupBlocks() {
    }

    public int write(int n, int content) {
        if (!isBlock(n) || !isContent(content)) {
            return BAD_ARG;
        }
        int before = contents[n];
        return put(n, content) ? before : FULL;
    }

    public int read(int n) {
        return isBlock(n) ? contents[n] : BAD_ARG;
    }

    public int patch(int n, int i, int d) {
        if (!isBlock(n) || i < 0 || i >= DIGITS || d < 0 || d >= DIGIT_VALUES) {
            return BAD_ARG;
        }
        int before = digit(contents[n], i);
        int patched = contents[n] + ((d - before) << (DIGIT_BITS * i));
        return put(n, patched) ? before : FULL;
    }

    // Never FULL: the only content handed on is one that block m holds before
    // and after, so no content comes to be held that was not.
    public int spread(int n, int m, int many) {
        if (!isBlock(n) || !isBlock(m) || many < 1 || many > BLOCKS_PER_VOLUME) {
            return BAD_ARG;
        }
        int left = BLOCKS_PER_VOLUME - n % BLOCKS_PER_VOLUME;
        int count = many < left ? many : left;
        int content = contents[m];
        for (int k = 0; k < count; k++) {
            contents[n + k] = content;
        }
        return count;
    }

    // Never FULL: volume w holds all that v gets, before and after.
    public int clone(int v, int w) {
        if (!isVolume(v) || !isVolume(w)) {
            return BAD_ARG;
        }
        int to = firstBlock(v);
        int from = firstBlock(w);
        int changed = 0;
        for (int b = 0; b < BLOCKS_PER_VOLUME; b++) {
            if (contents[to + b] != contents[from + b]) {
                contents[to + b] = contents[from + b];
                changed++;
            }
        }
        return changed;
    }

    public int erase(int v) {
        if (!isVolume(v)) {
            return BAD_ARG;
        }
        int first = firstBlock(v);
        int changed = 0;
        for (int b = 0; b < BLOCKS_PER_VOLUME; b++) {
            if (contents[first + b] != 0) {
                contents[first + b] = 0;
                changed++;
            }
        }
        return changed;
    }

    public int holders(int content) {
        return isContent(content) ? countHolders(content) : BAD_ARG;
    }

    public int distinct() {
        int count = 0;
        for (int n = 0; n < BLOCKS; n++) {
            if (contents[n] != 0 && isFirstHolder(n)) {
                count++;
            }
        }
        return count;
    }

    public int used() {
        return usedRoom();
    }

    public int saved() {
        int sum = 0;
        for (int n = 0; n < BLOCKS; n++) {
            sum += room(contents[n]);
        }
        return sum - usedRoom();
    }

    public int alone(int n) {
        if (!isBlock(n)) {
            return BAD_ARG;
        }
        return countHolders(contents[n]) == 1 ? room(contents[n]) : 0;
    }

    public int aloneIn(int v) {
        if (!isVolume(v)) {
            return BAD_ARG;
        }
        int first = firstBlock(v);
        int end = first + BLOCKS_PER_VOLUME;
        int sum = 0;
        for (int n = first; n < end; n++) {
            boolean heldBehind = findHolder(contents[n], end, BLOCKS) != NONE;
            if (isFirstHolder(n) && !heldBehind) {
                sum += room(contents[n]);
            }
        }
        return sum;
    }

    public int twin(int n) {
        if (!isBlock(n)) {
            return BAD_ARG;
        }
        int before = findHolder(contents[n], 0, n);
        return before != NONE ? before : findHolder(contents[n], n + 1, BLOCKS);
    }

    public int favourite() {
        int best = NONE;
        int most = 0;
        for (int n = 0; n < BLOCKS; n++) {
            int content = contents[n];
            if (content == 0) {
                continue;
            }
            int count = countHolders(content);
            if (count > most || (count == most && content < best)) {
                best = content;
                most = count;
            }
        }
        return best;
    }

    // Nothing is kept beside the contents, so there is nothing to put in order.
    public void tidy() {
    }

    private static boolean isBlock(int n) {
        return n >= 0 && n < BLOCKS;
    }

    private static boolean isVolume(int v) {
        return v >= 0 && v < VOLUMES;
    }

    private static boolean isContent(int content) {
        return content >= 0 && content < CONTENTS;
    }

    private static int firstBlock(int v) {
        return BLOCKS_PER_VOLUME * v;
    }

    private static int digit(int content, int i) {
        return (content >> (DIGIT_BITS * i)) % DIGIT_VALUES;
    }

    private static int room(int content) {
        if (content == 0) {
            return 0;
        }
        int runs = 1;
        for (int i = 1; i < DIGITS; i++) {
            if (digit(content, i) != digit(content, i - 1)) {
                runs++;
            }
        }
        return runs + 1;
    }

    // The limit binds the state at the end of a call, in which the content
    // before may have given room back: so put it first, then look.
    private boolean put(int n, int content) {
        int before = contents[n];
        contents[n] = content;
        if (usedRoom() > MOST_ROOM) {
            contents[n] = before;
            return false;
        }
        return true;
    }

    private int usedRoom() {
        int sum = 0;
        for (int n = 0; n < BLOCKS; n++) {
            if (isFirstHolder(n)) {
                sum += room(contents[n]);
            }
        }
        return sum;
    }

    private boolean isFirstHolder(int n) {
        return findHolder(contents[n], 0, n) == NONE;
    }

    private int countHolders(int content) {
        int count = 0;
        for (int n = 0; n < BLOCKS; n++) {
            if (contents[n] == content) {
                count++;
            }
        }
        return count;
    }

    /** The least block number from the first on and below the end that holds the content, or NONE. */
    private int findHolder(int content, int first, int end) {
        for (int n = first; n < end; n++) {
            if (contents[n] == content) {
                return n;
            }
        }
        return NONE;
    }
}
