/** Joins short reads into the shortest string that contains them all. */
public final class ReadJoiner {
    public static final int NONE = -1;
    public static final int FULL = -2;

    private static final int MAX_READS = 5;
    private static final int MAX_READ_LENGTH = 6;
    private static final int MAX_JOIN_LENGTH = 30;
    private static final int SYMBOL_KINDS = 4;
    // The orders in which five reads can be put: 5 * 4 * 3 * 2 * 1.
    private static final int ORDERS = 120;
    // A bit for each read there can be.
    private static final int ALL_READS = 31;

    // Read i has its symbols from place i * MAX_READ_LENGTH on.
    private final int[] symbols = new int[MAX_JOIN_LENGTH];
    private final int[] lengths = new int[MAX_READS];
    private int count;

    // What the search for a join works with; nothing here outlives a call.
    private final int[] order = new int[MAX_READS];
    private final int[] trial = new int[MAX_JOIN_LENGTH];
    private int trialLength;
    private final int[] join = new int[MAX_JOIN_LENGTH];
    private int joinLength;

    public ReadJoiner() {
        count = 0;
    }

    public int begin() {
        if (count >= MAX_READS) {
            return FULL;
        }
        lengths[count] = 0;
        count++;
        return count - 1;
    }

    public boolean append(int i, int v) {
        if (!isRead(i) || v < 0 || v >= SYMBOL_KINDS || lengths[i] >= MAX_READ_LENGTH) {
            return false;
        }
        symbols[i * MAX_READ_LENGTH + lengths[i]] = v;
        lengths[i]++;
        return true;
    }

    public int back(int i) {
        if (!isRead(i) || lengths[i] == 0) {
            return NONE;
        }
        lengths[i]--;
        return symbols[i * MAX_READ_LENGTH + lengths[i]];
    }

    public boolean remove(int i) {
        if (!isRead(i)) {
            return false;
        }
        for (int r = i + 1; r < count; r++) {
            moveDown(r);
        }
        count--;
        return true;
    }

    public int reads() {
        return count;
    }

    public int length(int i) {
        return isRead(i) ? lengths[i] : NONE;
    }

    public int overlap(int i, int j) {
        if (!isRead(i) || !isRead(j)) {
            return NONE;
        }
        return overlapWith(symbols, i * MAX_READ_LENGTH, lengths[i], j);
    }

    public boolean contains(int i, int j) {
        if (!isRead(i) || !isRead(j)) {
            return false;
        }
        return placeIn(symbols, i * MAX_READ_LENGTH, lengths[i], j) != NONE;
    }

    public int shortest() {
        findJoin(ALL_READS);
        return joinLength;
    }

    public int symbolAt(int k) {
        findJoin(ALL_READS);
        return k >= 0 && k < joinLength ? join[k] : NONE;
    }

    public int place(int i) {
        if (!isRead(i)) {
            return NONE;
        }
        findJoin(ALL_READS);
        return placeIn(join, 0, joinLength, i);
    }

    public int shortestWithout(int i) {
        if (!isRead(i)) {
            return NONE;
        }
        findJoin(ALL_READS & ~(1 << i));
        return joinLength;
    }

    public int pair(int i, int j) {
        if (!isRead(i) || !isRead(j)) {
            return NONE;
        }
        findJoin((1 << i) | (1 << j));
        return joinLength;
    }

    public boolean hasReverse(int i) {
        if (!isRead(i)) {
            return false;
        }
        findJoin(ALL_READS);
        for (int at = 0; at + lengths[i] <= joinLength; at++) {
            if (reverseStandsAt(at, i)) {
                return true;
            }
        }
        return false;
    }

    private boolean isRead(int i) {
        return i >= 0 && i < count;
    }

    private void moveDown(int r) {
        int from = r * MAX_READ_LENGTH;
        for (int s = from; s < from + lengths[r]; s++) {
            symbols[s - MAX_READ_LENGTH] = symbols[s];
        }
        lengths[r - 1] = lengths[r];
    }

    /** Whether the n symbols of text from at on are the n of symbols from start on. */
    private boolean sameSymbols(int[] text, int at, int start, int n) {
        for (int s = 0; s < n; s++) {
            if (text[at + s] != symbols[start + s]) {
                return false;
            }
        }
        return true;
    }

    private boolean reverseStandsAt(int at, int i) {
        int last = i * MAX_READ_LENGTH + lengths[i] - 1;
        for (int s = 0; s < lengths[i]; s++) {
            if (join[at + s] != symbols[last - s]) {
                return false;
            }
        }
        return true;
    }

    // A text, here and in overlapWith, is the n symbols of an array from start on, so that one method does for
    // reads and for joins alike.

    /** The least place in the text at which read j stands, or NONE. */
    private int placeIn(int[] text, int start, int n, int j) {
        for (int at = 0; at + lengths[j] <= n; at++) {
            if (sameSymbols(text, start + at, j * MAX_READ_LENGTH, lengths[j])) {
                return at;
            }
        }
        return NONE;
    }

    /** The greatest number of symbols that both end the text and begin read j. */
    private int overlapWith(int[] text, int start, int n, int j) {
        int most = n < lengths[j] ? n : lengths[j];
        for (int k = most; k > 0; k--) {
            if (sameSymbols(text, start + n - k, j * MAX_READ_LENGTH, k)) {
                return k;
            }
        }
        return 0;
    }

    /**
     * Leaves in join the first join of those reads whose bits are set in chosen.
     *
     * Every shortest string is met: it is what joinInOrder makes of its reads in the order of their
     * places in it, with those that another read contains put last.
     */
    private void findJoin(int chosen) {
        for (int code = 0; code < ORDERS; code++) {
            setOrder(code);
            joinInOrder(chosen);
            if (code == 0 || trialIsBetter()) {
                keepTrial();
            }
        }
    }

    /** Each code below ORDERS gives another order, since the choices are the digits of the code. */
    private void setOrder(int code) {
        for (int p = 0; p < MAX_READS; p++) {
            order[p] = p;
        }
        int rest = code;
        for (int p = 0; p < MAX_READS; p++) {
            int choices = MAX_READS - p;
            int pick = p + rest % choices;
            rest = rest / choices;
            int picked = order[pick];
            order[pick] = order[p];
            order[p] = picked;
        }
    }

    private void joinInOrder(int chosen) {
        trialLength = 0;
        for (int p = 0; p < MAX_READS; p++) {
            int r = order[p];
            boolean isChosen = r < count && (chosen >> r & 1) == 1;
            if (isChosen && placeIn(trial, 0, trialLength, r) == NONE) {
                int shared = overlapWith(trial, 0, trialLength, r);
                extendTrial(r, shared);
            }
        }
    }

    private void extendTrial(int r, int shared) {
        for (int s = shared; s < lengths[r]; s++) {
            trial[trialLength] = symbols[r * MAX_READ_LENGTH + s];
            trialLength++;
        }
    }

    private boolean trialIsBetter() {
        if (trialLength != joinLength) {
            return trialLength < joinLength;
        }
        for (int s = 0; s < trialLength; s++) {
            if (trial[s] != join[s]) {
                return trial[s] < join[s];
            }
        }
        return false;
    }

    private void keepTrial() {
        for (int s = 0; s < trialLength; s++) {
            join[s] = trial[s];
        }
        joinLength = trialLength;
    }
}
