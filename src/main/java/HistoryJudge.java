/** A judge of the histories of transactions. */
public final class HistoryJudge {
    public static final int OPEN = 0;
    public static final int COMMITTED = 1;
    public static final int ABORTED = 2;
    public static final int OK = 0;
    public static final int BAD = -1;
    public static final int CLOSED = -2;
    public static final int MANY = -3;
    public static final int REFUSED = -4;

    private static final int MOST_TRANSACTIONS = 4;
    private static final int MOST_KEYS = 4;
    private static final int MOST_VERSIONS = 2;
    private static final int CELLS = MOST_TRANSACTIONS * MOST_KEYS;
    private static final int VERSION_READS = CELLS * MOST_TRANSACTIONS * MOST_VERSIONS;

    private static final int CLEAN = 0;
    private static final int ORDERED = 1;
    private static final int SOURCED = 2;
    private static final int SNAPSHOT = 3;
    private static final int SERIAL = 4;

    /** Stands for "no transaction", "no list", "no place" and, as a writer, for the ground. */
    private static final int NONE = -1;

    /** A list of transactions is kept as one number, two bits a member, so that counting up goes in dictionary order. */
    private static final int MEMBER_BITS = 2;
    private static final int MEMBER_MASK = 3;

    private final int transactionCount;
    private final int keyCount;

    private final int[] states = new int[MOST_TRANSACTIONS];
    /** By cell: how many versions of the key the transaction has made. */
    private final int[] versions = new int[CELLS];
    /** By cell: the place, counted from 1, of the transaction in the version order of the key; 0 when it is not there. */
    private final int[] installs = new int[CELLS];
    /** By key: the length of its version order. */
    private final int[] installCounts = new int[MOST_KEYS];
    /** By cell: whether the transaction read the ground of the key. */
    private final boolean[] groundReads = new boolean[CELLS];
    private final boolean[] versionReads = new boolean[VERSION_READS];
    /** The place of each transaction in the list that is being tried; NONE when it is not in the list. */
    private final int[] places = new int[MOST_TRANSACTIONS];

    public HistoryJudge(int transactions, int keys) {
        transactionCount = clamp(transactions, MOST_TRANSACTIONS);
        keyCount = clamp(keys, MOST_KEYS);
    }

    public int write(int i, int x) {
        if (!isTransaction(i) || !isKey(x)) {
            return BAD;
        }
        if (states[i] != OPEN) {
            return CLOSED;
        }
        int cell = cellOf(i, x);
        if (versions[cell] >= MOST_VERSIONS) {
            return MANY;
        }
        versions[cell]++;
        return versions[cell];
    }

    public int read(int i, int x, int j, int v) {
        if (!isTransaction(i) || !isTransaction(j) || !isKey(x) || i == j) {
            return BAD;
        }
        if (states[i] != OPEN) {
            return CLOSED;
        }
        if (v < 1 || v > versions[cellOf(j, x)]) {
            return MANY;
        }
        versionReads[readOf(i, x, j, v)] = true;
        return OK;
    }

    public int readGround(int i, int x) {
        if (!isTransaction(i) || !isKey(x)) {
            return BAD;
        }
        if (states[i] != OPEN) {
            return CLOSED;
        }
        groundReads[cellOf(i, x)] = true;
        return OK;
    }

    public int install(int x, int i) {
        if (!isTransaction(i) || !isKey(x)) {
            return BAD;
        }
        int cell = cellOf(i, x);
        if (!wrote(i, x)) {
            return MANY;
        }
        if (installs[cell] != 0) {
            return REFUSED;
        }
        installCounts[x]++;
        installs[cell] = installCounts[x];
        return OK;
    }

    public int commit(int i) {
        return close(i, COMMITTED);
    }

    public int abort(int i) {
        return close(i, ABORTED);
    }

    public int commitIf(int i, int kind) {
        if (!isTransaction(i) || kind < CLEAN || kind > SERIAL) {
            return BAD;
        }
        if (states[i] != OPEN) {
            return CLOSED;
        }
        states[i] = COMMITTED;
        if (firstList(kind) != NONE) {
            return OK;
        }
        states[i] = ABORTED;
        return REFUSED;
    }

    public int state(int i) {
        return isTransaction(i) ? states[i] : BAD;
    }

    public boolean clean() {
        return isClean();
    }

    public boolean ordered() {
        return firstList(ORDERED) != NONE;
    }

    public boolean sourced() {
        return firstList(SOURCED) != NONE;
    }

    public boolean snapshot() {
        return firstList(SNAPSHOT) != NONE;
    }

    public boolean serial() {
        return firstList(SERIAL) != NONE;
    }

    public int serialAt(int k) {
        int size = committedCount();
        if (k < 0 || k >= size) {
            return NONE;
        }
        int list = firstList(SERIAL);
        return list == NONE ? NONE : memberAt(list, size, k);
    }

    private static int clamp(int asked, int most) {
        if (asked < 1) {
            return 1;
        }
        return asked > most ? most : asked;
    }

    private boolean isTransaction(int i) {
        return i >= 0 && i < transactionCount;
    }

    private boolean isKey(int x) {
        return x >= 0 && x < keyCount;
    }

    private static int cellOf(int i, int x) {
        return i * MOST_KEYS + x;
    }

    private static int readOf(int i, int x, int j, int v) {
        return ((i * MOST_KEYS + x) * MOST_TRANSACTIONS + j) * MOST_VERSIONS + v - 1;
    }

    /** Reckons the cell itself: through cellOf() the judgements would go more than six calls deep. */
    private boolean wrote(int i, int x) {
        return versions[i * MOST_KEYS + x] > 0;
    }

    private int close(int i, int how) {
        if (!isTransaction(i)) {
            return BAD;
        }
        if (states[i] != OPEN) {
            return CLOSED;
        }
        states[i] = how;
        return OK;
    }

    private int committedCount() {
        int count = 0;
        for (int i = 0; i < transactionCount; i++) {
            if (states[i] == COMMITTED) {
                count++;
            }
        }
        return count;
    }

    private boolean isClean() {
        for (int i = 0; i < transactionCount; i++) {
            for (int j = 0; j < transactionCount; j++) {
                if (states[i] == COMMITTED && !readsCleanly(i, j)) {
                    return false;
                }
            }
        }
        return true;
    }

    private boolean readsCleanly(int i, int j) {
        for (int x = 0; x < keyCount; x++) {
            int last = versions[cellOf(j, x)];
            for (int v = 1; v <= MOST_VERSIONS; v++) {
                boolean isGood = states[j] == COMMITTED && v == last;
                if (versionReads[readOf(i, x, j, v)] && !isGood) {
                    return false;
                }
            }
        }
        return true;
    }

    /** The first list, in dictionary order, that keeps what the kind asks; NONE when the history is not of the kind. */
    private int firstList(int kind) {
        if (kind != ORDERED && !isClean()) {
            return NONE;
        }
        int size = committedCount();
        int end = 1 << (MEMBER_BITS * size);
        for (int list = 0; list < end; list++) {
            boolean isKept = takesPlaces(list, size);
            isKept = isKept && (kind == CLEAN || keepsRankings());
            isKept = isKept && (kind != SOURCED || keepsSources());
            isKept = isKept && (kind != SNAPSHOT || keepsSnapshots());
            isKept = isKept && (kind != SERIAL || keepsReads());
            if (isKept) {
                return list;
            }
        }
        return NONE;
    }

    /** The first member stands in the highest bits: a lower number is then an earlier list in dictionary order. */
    private static int memberAt(int list, int size, int place) {
        return (list >> (MEMBER_BITS * (size - 1 - place))) & MEMBER_MASK;
    }

    /** Sets the places from the list; false when the list has not every committed transaction just once. */
    private boolean takesPlaces(int list, int size) {
        for (int i = 0; i < MOST_TRANSACTIONS; i++) {
            places[i] = NONE;
        }
        for (int place = 0; place < size; place++) {
            int i = memberAt(list, size, place);
            if (states[i] != COMMITTED || places[i] != NONE) {
                return false;
            }
            places[i] = place;
        }
        return true;
    }

    private boolean keepsRankings() {
        for (int i = 0; i < transactionCount; i++) {
            for (int j = 0; j < transactionCount; j++) {
                if (places[i] != NONE && places[j] > places[i] && !ranksBefore(i, j)) {
                    return false;
                }
            }
        }
        return true;
    }

    /** Whether i comes before j in the ranking of every key that both wrote. */
    private boolean ranksBefore(int i, int j) {
        for (int x = 0; x < keyCount; x++) {
            boolean bothWrote = wrote(i, x) && wrote(j, x);
            if (bothWrote && rankOf(i, x) > rankOf(j, x)) {
                return false;
            }
        }
        return true;
    }

    /** A number that grows along the ranking: writers outside the version order come behind all that are in it. */
    private int rankOf(int i, int x) {
        int installed = installs[cellOf(i, x)];
        return installed > 0 ? installed : MOST_TRANSACTIONS + 1 + i;
    }

    private boolean keepsSources() {
        for (int i = 0; i < transactionCount; i++) {
            for (int j = 0; j < transactionCount; j++) {
                if (places[i] != NONE && places[j] > places[i] && readsFrom(i, j)) {
                    return false;
                }
            }
        }
        return true;
    }

    private boolean readsFrom(int i, int j) {
        for (int x = 0; x < keyCount; x++) {
            if (readsKeyFrom(i, x, j)) {
                return true;
            }
        }
        return false;
    }

    private boolean keepsReads() {
        for (int i = 0; i < transactionCount; i++) {
            if (places[i] != NONE && !readsFitAt(i, places[i])) {
                return false;
            }
        }
        return true;
    }

    /**
     * Here the list is taken as the order of the ends. What is asked of a start hangs only on how many ends lie before it, and not on
     * the other starts, so each transaction can be given its start on its own.
     */
    private boolean keepsSnapshots() {
        for (int i = 0; i < transactionCount; i++) {
            int endsBefore = places[i];
            boolean canStart = endsBefore == NONE;
            for (int start = 0; start <= endsBefore; start++) {
                canStart = canStart || (startsAfterRivals(i, start) && readsFitAt(i, start));
            }
            if (!canStart) {
                return false;
            }
        }
        return true;
    }

    /** Whether every transaction that ends before i and wrote a key that i wrote has its end among the ends before the start. */
    private boolean startsAfterRivals(int i, int start) {
        for (int j = 0; j < transactionCount; j++) {
            for (int x = 0; x < keyCount; x++) {
                boolean bothWrote = wrote(i, x) && wrote(j, x);
                if (bothWrote && places[j] >= start && places[j] < places[i]) {
                    return false;
                }
            }
        }
        return true;
    }

    /** Whether each read by i is of what the transactions at the places below the bound left. */
    private boolean readsFitAt(int i, int bound) {
        for (int x = 0; x < keyCount; x++) {
            int writer = lastWriter(x, bound);
            if (groundReads[cellOf(i, x)] && writer != NONE) {
                return false;
            }
            for (int j = 0; j < transactionCount; j++) {
                if (j != writer && readsKeyFrom(i, x, j)) {
                    return false;
                }
            }
        }
        return true;
    }

    private boolean readsKeyFrom(int i, int x, int j) {
        boolean isFirstRead = versionReads[readOf(i, x, j, 1)];
        boolean isSecondRead = versionReads[readOf(i, x, j, 2)];
        return isFirstRead || isSecondRead;
    }

    /** The last writer of x at the places below the bound; NONE when there the ground is still to be seen. */
    private int lastWriter(int x, int bound) {
        int writer = NONE;
        int last = NONE;
        for (int j = 0; j < transactionCount; j++) {
            if (wrote(j, x) && places[j] > last && places[j] < bound) {
                writer = j;
                last = places[j];
            }
        }
        return writer;
    }
}
