import java.util.ArrayList;
import java.util.LinkedHashSet;
import java.util.List;
import java.util.Set;

/** The document word by word, with no care for speed: lists, sets and every arrangement tried. A source of -1 is the ground. */
final class Model {
    record Read(int reader, int key, int source, int version) { }

    private final int transactions;
    private final int keys;
    private final int[] state;
    private final int[][] made;
    private final Set<Read> reads = new LinkedHashSet<>();
    private final List<List<Integer>> versionOrders = new ArrayList<>();

    Model(int transactions, int keys) {
        this.transactions = Math.max(1, Math.min(4, transactions));
        this.keys = Math.max(1, Math.min(4, keys));
        state = new int[this.transactions];
        made = new int[this.transactions][this.keys];
        for (int x = 0; x < this.keys; x++) {
            versionOrders.add(new ArrayList<>());
        }
    }

    int write(int i, int x) {
        if (!has(i, x)) {
            return -1;
        }
        if (state[i] != 0) {
            return -2;
        }
        return made[i][x] == 2 ? -3 : ++made[i][x];
    }

    /** The number of the final version, 0 when there is none: for choosing reads. */
    int versions(int i, int x) {
        return has(i, x) ? made[i][x] : 0;
    }

    int read(int i, int x, int j, int v) {
        if (!has(i, x) || !has(j, x) || i == j) {
            return -1;
        }
        if (state[i] != 0) {
            return -2;
        }
        if (v <= 0 || v > made[j][x]) {
            return -3;
        }
        reads.add(new Read(i, x, j, v));
        return 0;
    }

    int readGround(int i, int x) {
        if (!has(i, x)) {
            return -1;
        }
        if (state[i] != 0) {
            return -2;
        }
        reads.add(new Read(i, x, -1, 0));
        return 0;
    }

    int install(int x, int i) {
        if (!has(i, x)) {
            return -1;
        }
        if (made[i][x] == 0) {
            return -3;
        }
        if (versionOrders.get(x).contains(i)) {
            return -4;
        }
        versionOrders.get(x).add(i);
        return 0;
    }

    int close(int i, int how) {
        if (!has(i, 0)) {
            return -1;
        }
        if (state[i] != 0) {
            return -2;
        }
        state[i] = how;
        return 0;
    }

    int commitIf(int i, int kind) {
        if (!has(i, 0) || kind < 0 || kind > 4) {
            return -1;
        }
        if (state[i] != 0) {
            return -2;
        }
        state[i] = 1;
        if (judge(kind)) {
            return 0;
        }
        state[i] = 2;
        return -4;
    }

    int state(int i) {
        return has(i, 0) ? state[i] : -1;
    }

    boolean judge(int kind) {
        return switch (kind) {
            case 0 -> clean();
            case 1 -> lists().stream().anyMatch(this::keepsRankings);
            case 2 -> clean() && lists().stream().anyMatch(list -> keepsRankings(list) && keepsSources(list));
            case 3 -> clean() && someLine(new ArrayList<>());
            default -> clean() && lists().stream().anyMatch(list -> keepsRankings(list) && keepsReads(list));
        };
    }

    int serialAt(int k) {
        if (!judge(4) || k < 0 || k >= committed().size()) {
            return -1;
        }
        return lists().stream().filter(list -> keepsRankings(list) && keepsReads(list)).findFirst().orElseThrow().get(k);
    }

    private boolean has(int i, int x) {
        return i >= 0 && i < transactions && x >= 0 && x < keys;
    }

    private List<Integer> committed() {
        List<Integer> all = new ArrayList<>();
        for (int i = 0; i < transactions; i++) {
            if (state[i] == 1) {
                all.add(i);
            }
        }
        return all;
    }

    private List<Read> committedReads() {
        return reads.stream().filter(read -> state[read.reader] == 1).toList();
    }

    private boolean clean() {
        return committedReads().stream().filter(read -> read.source >= 0)
            .allMatch(read -> state[read.source] == 1 && made[read.source][read.key] == read.version);
    }

    private List<Integer> ranking(int x) {
        List<Integer> ranking = new ArrayList<>(versionOrders.get(x));
        ranking.removeIf(i -> state[i] != 1);
        for (int i : committed()) {
            if (made[i][x] > 0 && !ranking.contains(i)) {
                ranking.add(i);
            }
        }
        return ranking;
    }

    /** All lists of the committed transactions, in dictionary order. */
    private List<List<Integer>> lists() {
        List<List<Integer>> lists = new ArrayList<>();
        lists.add(List.of());
        for (int length = 0; length < committed().size(); length++) {
            List<List<Integer>> longer = new ArrayList<>();
            for (List<Integer> list : lists) {
                for (int i : committed()) {
                    if (!list.contains(i)) {
                        longer.add(with(list, i));
                    }
                }
            }
            lists = longer;
        }
        return lists;
    }

    private static List<Integer> with(List<Integer> list, int next) {
        List<Integer> longer = new ArrayList<>(list);
        longer.add(next);
        return longer;
    }

    private boolean keepsRankings(List<Integer> list) {
        for (int x = 0; x < keys; x++) {
            List<Integer> inList = new ArrayList<>(list);
            inList.retainAll(ranking(x));
            if (!inList.equals(ranking(x))) {
                return false;
            }
        }
        return true;
    }

    private boolean keepsSources(List<Integer> list) {
        return committedReads().stream().filter(read -> read.source >= 0)
            .allMatch(read -> list.indexOf(read.source) < list.indexOf(read.reader));
    }

    private boolean keepsReads(List<Integer> list) {
        return committedReads().stream().allMatch(read -> seenAfter(list.subList(0, list.indexOf(read.reader)), read.key) == read.source);
    }

    private int seenAfter(List<Integer> before, int x) {
        int seen = -1;
        for (int i : before) {
            seen = made[i][x] > 0 ? i : seen;
        }
        return seen;
    }

    /** A point 2 i is the start of i, a point 2 i + 1 its end. */
    private boolean someLine(List<Integer> line) {
        if (line.size() == 2 * committed().size()) {
            return isSnapshotLine(line);
        }
        for (int i : committed()) {
            int next = line.contains(2 * i) ? 2 * i + 1 : 2 * i;
            if (!line.contains(next) && someLine(with(line, next))) {
                return true;
            }
        }
        return false;
    }

    private boolean isSnapshotLine(List<Integer> line) {
        return keepsRankings(ends(line)) && rivalsAreApart(line)
            && committedReads().stream().allMatch(read -> seenAtStart(line, read.reader, read.key) == read.source);
    }

    private static List<Integer> ends(List<Integer> line) {
        return line.stream().filter(point -> point % 2 == 1).map(point -> point / 2).toList();
    }

    private boolean rivalsAreApart(List<Integer> line) {
        for (int x = 0; x < keys; x++) {
            for (int i : ranking(x)) {
                for (int j : ranking(x)) {
                    boolean iFirst = line.indexOf(2 * i + 1) < line.indexOf(2 * j);
                    boolean jFirst = line.indexOf(2 * j + 1) < line.indexOf(2 * i);
                    if (i != j && !iFirst && !jFirst) {
                        return false;
                    }
                }
            }
        }
        return true;
    }

    private int seenAtStart(List<Integer> line, int i, int x) {
        return seenAfter(ends(line.subList(0, line.indexOf(2 * i))), x);
    }
}
