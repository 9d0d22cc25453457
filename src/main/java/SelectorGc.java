/**
 * Six endless sequences, defined by each other. After every change all ready elements that a question can touch are
 * found anew, bottom up, so that a question only reads.
 */
public final class SelectorGc {
    public static final int COUNT = 0;
    public static final int CONS = 1;
    public static final int TAIL = 2;
    public static final int ADD = 3;
    public static final int MUL = 4;
    public static final int SCALE = 5;
    public static final int SCAN = 6;
    public static final int WEAVE = 7;
    public static final int MERGE = 8;
    public static final int BAD = -1;
    public static final int NONE = -2;

    private static final int SEQUENCES = 6;
    /** Questions are about the elements 0 to 15. */
    private static final int ASKED = 16;
    /**
     * Only TAIL needs a later element than its own. A ready pair that comes back to its own sequence comes back to an
     * earlier element, so over six sequences a need rises at most five times: from element 15 to element 20.
     */
    private static final int DEPTH = 21;
    private static final int CELLS = SEQUENCES * DEPTH;

    private final int[] kinds = new int[SEQUENCES];
    private final int[] firsts = new int[SEQUENCES];
    private final int[] seconds = new int[SEQUENCES];

    /** Ready elements have no gap before them, so their number tells which ones they are. */
    private final int[] readyCounts = new int[SEQUENCES];
    /** Element k of sequence s stands at s * DEPTH + k. */
    private final int[] values = new int[CELLS];

    /** The places i and j of a MERGE after the steps made so far. */
    private final int[] firstPlaces = new int[SEQUENCES];
    private final int[] secondPlaces = new int[SEQUENCES];

    public SelectorGc() {
        defineAllAsZeros();
        evaluate();
    }

    public boolean define(int s, int kind, int a, int b) {
        if (!isSequence(s) || kind < COUNT || kind > MERGE) {
            return false;
        }
        if (firstIsSequence(kind) && !isSequence(a)) {
            return false;
        }
        if (secondIsSequence(kind) && !isSequence(b)) {
            return false;
        }
        kinds[s] = kind;
        firsts[s] = a;
        seconds[s] = b;
        evaluate();
        return true;
    }

    public boolean ready(int s, int k) {
        return k < ASKED && isFound(s, k);
    }

    public int element(int s, int k) {
        return ready(s, k) ? valueOf(s, k) : 0;
    }

    public int known(int s) {
        if (!isSequence(s)) {
            return BAD;
        }
        return readyCounts[s] < ASKED ? readyCounts[s] : ASKED;
    }

    public int firstAbove(int s, int v) {
        if (!isSequence(s)) {
            return BAD;
        }
        for (int k = 0; k < ASKED; k++) {
            if (isFound(s, k) && valueOf(s, k) > v) {
                return k;
            }
        }
        return NONE;
    }

    public int agree(int s, int t) {
        if (!isSequence(s) || !isSequence(t)) {
            return BAD;
        }
        int equal = 0;
        for (int k = 0; k < ASKED; k++) {
            if (isFound(s, k) && isFound(t, k) && valueOf(s, k) == valueOf(t, k)) {
                equal++;
            }
        }
        return equal;
    }

    public int kind(int s) {
        return isSequence(s) ? kinds[s] : BAD;
    }

    public void reset() {
        defineAllAsZeros();
        evaluate();
    }

    private static boolean isSequence(int s) {
        return s >= 0 && s < SEQUENCES;
    }

    private static boolean firstIsSequence(int kind) {
        return kind != COUNT && kind != CONS && kind != SCALE;
    }

    private static boolean secondIsSequence(int kind) {
        return kind != COUNT && kind != TAIL && kind != SCAN;
    }

    private void defineAllAsZeros() {
        for (int s = 0; s < SEQUENCES; s++) {
            kinds[s] = COUNT;
            firsts[s] = 0;
            seconds[s] = 0;
        }
    }

    /**
     * Starts from nothing and adds only what has all its needs already, so that it ends with the smallest set: pairs
     * that need each other in a circle never come in.
     */
    private void evaluate() {
        for (int s = 0; s < SEQUENCES; s++) {
            readyCounts[s] = 0;
            firstPlaces[s] = 0;
            secondPlaces[s] = 0;
        }
        boolean grown = true;
        // Every round but the last one fills a cell, so there are never more rounds than cells and one.
        for (int round = 0; round <= CELLS && grown; round++) {
            grown = false;
            for (int s = 0; s < SEQUENCES; s++) {
                if (extend(s)) {
                    grown = true;
                }
            }
        }
    }

    /** Adds the next element of s, if its needs are met; answers whether it did. */
    private boolean extend(int s) {
        int k = readyCounts[s];
        if (k >= DEPTH || !needsAreMet(s, k)) {
            return false;
        }
        values[s * DEPTH + k] = nextValue(s, k);
        if (kinds[s] == MERGE) {
            moveMergePlaces(s);
        }
        readyCounts[s] = k + 1;
        return true;
    }

    private boolean needsAreMet(int s, int k) {
        int a = firsts[s];
        int b = seconds[s];
        switch (kinds[s]) {
            case COUNT:
                return true;
            case CONS:
                return k == 0 || isFound(b, k - 1);
            case TAIL:
                return isFound(a, k + 1);
            case ADD:
            case MUL:
                return isFound(a, k) && isFound(b, k);
            case SCALE:
                return isFound(b, k);
            case SCAN:
                return isFound(a, k);
            case WEAVE:
                return k % 2 == 0 ? isFound(a, k / 2) : isFound(b, k / 2);
            default:
                return isFound(a, firstPlaces[s]) && isFound(b, secondPlaces[s]);
        }
    }

    /** The value of s[k], whose needs are met. */
    private int nextValue(int s, int k) {
        int a = firsts[s];
        int b = seconds[s];
        switch (kinds[s]) {
            case COUNT:
                return a + k * b;
            case CONS:
                return k == 0 ? a : valueOf(b, k - 1);
            case TAIL:
                return valueOf(a, k + 1);
            case ADD:
                return valueOf(a, k) + valueOf(b, k);
            case MUL:
                return valueOf(a, k) * valueOf(b, k);
            case SCALE:
                return a * valueOf(b, k);
            case SCAN:
                return k == 0 ? valueOf(a, 0) : valueOf(s, k - 1) + valueOf(a, k);
            case WEAVE:
                return k % 2 == 0 ? valueOf(a, k / 2) : valueOf(b, k / 2);
            default:
                int x = valueOf(a, firstPlaces[s]);
                int y = valueOf(b, secondPlaces[s]);
                return x < y ? x : y;
        }
    }

    private void moveMergePlaces(int s) {
        int x = valueOf(firsts[s], firstPlaces[s]);
        int y = valueOf(seconds[s], secondPlaces[s]);
        if (x <= y) {
            firstPlaces[s]++;
        }
        if (y <= x) {
            secondPlaces[s]++;
        }
    }

    private boolean isFound(int s, int k) {
        return isSequence(s) && k >= 0 && k < readyCounts[s];
    }

    /** Asked only for a pair that is found, which keeps the index inside the array. */
    private int valueOf(int s, int k) {
        return values[s * DEPTH + k];
    }
}
