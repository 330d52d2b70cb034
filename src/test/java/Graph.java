import java.util.ArrayList;
import java.util.List;

/**
 * The judgements by another way than the document's: not by trying lists, but by what must come before what, and whether that goes in a
 * ring. A list that keeps the reads puts a reader behind its source and before every writer that ranks behind the source; so the first
 * serial list is found by always taking the least transaction that nothing has to come before any more.
 */
final class Graph {
    static final int GROUND = -1;

    final int transactions;
    final int keys;
    final int[] state;
    final int[][] made;
    /** Each read as reader, key, source (or GROUND) and version. */
    final List<int[]> reads = new ArrayList<>();
    final List<List<Integer>> orders = new ArrayList<>();

    Graph(int transactions, int keys) {
        this.transactions = transactions;
        this.keys = keys;
        state = new int[transactions];
        made = new int[transactions][keys];
        for (int x = 0; x < keys; x++) {
            orders.add(new ArrayList<>());
        }
    }

    boolean clean() {
        for (int[] read : reads) {
            boolean counts = isIn(read[0]) && read[2] != GROUND;
            if (counts && (!isIn(read[2]) || made[read[2]][read[1]] != read[3])) {
                return false;
            }
        }
        return true;
    }

    boolean ordered() {
        return hasNoRing(writersFirst());
    }

    boolean sourced() {
        return clean() && hasNoRing(sourcesFirst());
    }

    boolean serial() {
        return clean() && hasNoRing(overwritersLast());
    }

    /** A point i is the start of i, and the point transactions + i its end. */
    boolean snapshot() {
        if (!clean()) {
            return false;
        }
        int end = transactions;
        boolean[][] before = new boolean[2 * end][2 * end];
        boolean[][] apart = sourcesFirst();
        boolean[][] unseen = unseen();
        for (int i = 0; i < end; i++) {
            before[i][end + i] = true;
            for (int j = 0; j < end; j++) {
                before[end + i][j] = apart[i][j];
                before[i][end + j] |= unseen[i][j];
            }
        }
        return hasNoRing(before);
    }

    List<Integer> firstSerialList() {
        List<Integer> list = new ArrayList<>();
        if (!serial()) {
            return list;
        }
        boolean[][] before = overwritersLast();
        for (int i = 0; i < transactions; i++) {
            if (isIn(i) && !list.contains(i) && isFree(i, before, list)) {
                list.add(i);
                i = -1;
            }
        }
        return list;
    }

    private boolean isFree(int i, boolean[][] before, List<Integer> list) {
        for (int j = 0; j < transactions; j++) {
            if (before[j][i] && !list.contains(j)) {
                return false;
            }
        }
        return true;
    }

    private boolean isIn(int i) {
        return state[i] == HistoryJudge.COMMITTED;
    }

    private List<Integer> ranking(int x) {
        List<Integer> ranking = new ArrayList<>();
        for (int i : orders.get(x)) {
            if (isIn(i)) {
                ranking.add(i);
            }
        }
        for (int i = 0; i < transactions; i++) {
            if (isIn(i) && made[i][x] > 0 && !orders.get(x).contains(i)) {
                ranking.add(i);
            }
        }
        return ranking;
    }

    private boolean[][] writersFirst() {
        boolean[][] before = new boolean[transactions][transactions];
        for (int x = 0; x < keys; x++) {
            List<Integer> ranking = ranking(x);
            for (int a = 0; a < ranking.size(); a++) {
                for (int b = a + 1; b < ranking.size(); b++) {
                    before[ranking.get(a)][ranking.get(b)] = true;
                }
            }
        }
        return before;
    }

    private boolean[][] sourcesFirst() {
        boolean[][] before = writersFirst();
        for (int[] read : reads) {
            if (isIn(read[0]) && read[2] != GROUND) {
                before[read[2]][read[0]] = true;
            }
        }
        return before;
    }

    /** Whose writes a reader must not have seen: those that rank behind what it read. */
    private boolean[][] unseen() {
        boolean[][] before = new boolean[transactions][transactions];
        for (int[] read : reads) {
            List<Integer> ranking = ranking(read[1]);
            int source = read[2] == GROUND ? -1 : ranking.indexOf(read[2]);
            for (int place = source + 1; place < ranking.size(); place++) {
                if (isIn(read[0]) && ranking.get(place) != read[0]) {
                    before[read[0]][ranking.get(place)] = true;
                }
            }
        }
        return before;
    }

    private boolean[][] overwritersLast() {
        boolean[][] before = sourcesFirst();
        boolean[][] unseen = unseen();
        for (int i = 0; i < transactions; i++) {
            for (int j = 0; j < transactions; j++) {
                before[i][j] |= unseen[i][j];
            }
        }
        return before;
    }

    private static boolean hasNoRing(boolean[][] before) {
        int size = before.length;
        boolean[][] reaches = new boolean[size][];
        for (int a = 0; a < size; a++) {
            reaches[a] = before[a].clone();
        }
        for (int via = 0; via < size; via++) {
            for (int a = 0; a < size; a++) {
                for (int b = 0; b < size; b++) {
                    reaches[a][b] |= reaches[a][via] && reaches[via][b];
                }
            }
        }
        for (int a = 0; a < size; a++) {
            if (reaches[a][a]) {
                return false;
            }
        }
        return true;
    }
}
