import java.util.ArrayList;
import java.util.List;

/** Every history of two transactions over one key, all of two over two keys that commit, and many larger ones, judged as Graph judges them. */
public final class GraphTest {
    private static final int LARGE = 150000;
    private static final Due DUE = new Due();
    private static long seed = 20261116L;
    /** How often each judgement failed and held. */
    private static final int[][] SEEN = new int[5][2];

    /** What happened to one key: how often each of two wrote it, the reads of each, and the version order. */
    private record Key(int[] made, int[] reads, List<Integer> order) { }

    public static void main(String[] args) {
        List<Key> keys = allKeys();
        DUE.is("histories of one key", keys.size(), 820);
        for (Key key : keys) {
            for (int states = 0; states < 9; states++) {
                compare(historyOf(List.of(key), states / 3, states % 3));
            }
        }
        for (Key first : keys) {
            for (Key second : keys) {
                compare(historyOf(List.of(first, second), 1, 1));
            }
        }
        for (int again = 0; again < LARGE; again++) {
            compare(large());
        }
        for (int kind = 0; kind < 5; kind++) {
            DUE.is("judgement " + kind + " often failed", SEEN[kind][0] > 10000, true);
            DUE.is("judgement " + kind + " often held", SEEN[kind][1] > 10000, true);
        }
        DUE.end();
    }

    private static List<Key> allKeys() {
        List<Key> keys = new ArrayList<>();
        for (int made = 0; made < 9; made++) {
            int[] versions = {made / 3, made % 3};
            int readsOfFirst = 2 << versions[1];
            int readsOfSecond = 2 << versions[0];
            for (int reads = 0; reads < readsOfFirst * readsOfSecond; reads++) {
                for (List<Integer> order : orders(versions)) {
                    keys.add(new Key(versions, new int[] {reads / readsOfSecond, reads % readsOfSecond}, order));
                }
            }
        }
        return keys;
    }

    private static List<List<Integer>> orders(int[] versions) {
        List<List<Integer>> orders = new ArrayList<>();
        for (List<Integer> order : List.of(List.<Integer>of(), List.of(0), List.of(1), List.of(0, 1), List.of(1, 0))) {
            if (order.stream().allMatch(i -> versions[i] > 0)) {
                orders.add(order);
            }
        }
        return orders;
    }

    /** Bit 0 of the reads is the one of the ground, bit v the one of the other's version v. */
    private static Graph historyOf(List<Key> keys, int firstState, int secondState) {
        Graph g = new Graph(2, keys.size());
        g.state[0] = firstState;
        g.state[1] = secondState;
        for (int x = 0; x < keys.size(); x++) {
            Key key = keys.get(x);
            g.orders.get(x).addAll(key.order);
            for (int i = 0; i < 2; i++) {
                g.made[i][x] = key.made[i];
                for (int v = 0; v < 3; v++) {
                    if ((key.reads[i] >> v & 1) == 1) {
                        g.reads.add(new int[] {i, x, v == 0 ? Graph.GROUND : 1 - i, v});
                    }
                }
            }
        }
        return g;
    }

    private static int below(int bound) {
        seed = seed * 6364136223846793005L + 1442695040888963407L;
        return (int) ((seed >>> 33) % bound);
    }

    /** Three or four transactions, most of which commit, and mostly reads of final versions. */
    private static Graph large() {
        Graph g = new Graph(3 + below(2), 1 + below(4));
        int writes = 1 + below(8);
        for (int write = 0; write < writes; write++) {
            writeSome(g, below(g.transactions), below(g.keys));
        }
        int reads = below(7);
        for (int read = 0; read < reads; read++) {
            readSome(g, below(g.transactions), below(g.keys), below(g.transactions));
        }
        for (int i = 0; i < g.transactions; i++) {
            g.state[i] = below(12) == 0 ? below(3) : HistoryJudge.COMMITTED;
        }
        return g;
    }

    private static void writeSome(Graph g, int i, int x) {
        if (g.made[i][x] < 2) {
            g.made[i][x]++;
        }
        if (below(2) == 0 && !g.orders.get(x).contains(i)) {
            g.orders.get(x).add(i);
        }
    }

    private static void readSome(Graph g, int i, int x, int j) {
        if (i == j || g.made[j][x] == 0) {
            g.reads.add(new int[] {i, x, Graph.GROUND, 0});
        } else {
            g.reads.add(new int[] {i, x, j, below(20) == 0 ? 1 : g.made[j][x]});
        }
    }

    private static void compare(Graph g) {
        HistoryJudge h = new HistoryJudge(g.transactions, g.keys);
        String steps = tell(g, h);
        boolean[] got = {h.clean(), h.ordered(), h.sourced(), h.snapshot(), h.serial()};
        boolean[] want = {g.clean(), g.ordered(), g.sourced(), g.snapshot(), g.serial()};
        for (int kind = 0; kind < 5; kind++) {
            SEEN[kind][want[kind] ? 1 : 0]++;
            DUE.is(steps + ": judgement " + kind, got[kind], want[kind]);
        }
        List<Integer> list = g.firstSerialList();
        for (int k = 0; k < g.transactions; k++) {
            DUE.is(steps + ": serialAt(" + k + ")", h.serialAt(k), k < list.size() ? list.get(k) : -1);
        }
    }

    /** Says the history to the object, in the steps of Run, and gives them back. */
    private static String tell(Graph g, HistoryJudge h) {
        StringBuilder steps = new StringBuilder();
        for (int i = 0; i < g.transactions; i++) {
            for (int x = 0; x < g.keys; x++) {
                steps.append((" w" + i + x).repeat(g.made[i][x]));
            }
        }
        for (int x = 0; x < g.keys; x++) {
            for (int i : g.orders.get(x)) {
                steps.append(" p" + x + i);
            }
        }
        for (int[] read : g.reads) {
            steps.append(read[2] == Graph.GROUND ? " g" + read[0] + read[1] : " r" + read[0] + read[1] + read[2] + read[3]);
        }
        for (int i = 0; i < g.transactions; i++) {
            steps.append(g.state[i] == 0 ? "" : g.state[i] == 1 ? " c" + i : " a" + i);
        }
        Run.more(h, steps.toString());
        return steps.toString();
    }
}
