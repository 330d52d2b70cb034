/** Long runs of calls, the same each time, answered alike by the class and by the model of the document. */
public final class ModelTest {
    private static final int RUNS = 6000;
    private static final int[] STRANGE = {-1, 4, 5, Integer.MIN_VALUE, Integer.MAX_VALUE};

    private static final Due DUE = new Due();
    private static long seed = 20261115L;
    /** How often each judgement held and failed: runs that never tell two judgements apart would test nothing. */
    private static int[][] seen = new int[5][2];
    private static int snapshotsAlone = 0;

    public static void main(String[] args) {
        for (int run = 0; run < RUNS; run++) {
            oneRun(run);
            cleanRun(run);
        }
        for (int kind = 0; kind < 5; kind++) {
            for (int answer = 0; answer < 2; answer++) {
                DUE.is("judgement " + kind + " was often " + answer, seen[kind][answer] > 500, true);
            }
        }
        DUE.is("snapshot() without serial() was often", snapshotsAlone > 100, true);
        DUE.end();
    }

    private static int below(int bound) {
        seed = seed * 6364136223846793005L + 1442695040888963407L;
        return (int) ((seed >>> 33) % bound);
    }

    /** Mostly a number below the size, now and then one that is not there. */
    private static int some(int size) {
        return below(60) == 0 ? STRANGE[below(STRANGE.length)] : below(size);
    }

    private static void oneRun(int run) {
        int transactions = below(8) == 0 ? below(8) - 2 : 2 + below(3);
        int keys = below(8) == 0 ? below(8) - 2 : 1 + below(4);
        HistoryJudge h = new HistoryJudge(transactions, keys);
        Model m = new Model(transactions, keys);
        int size = Math.max(1, Math.min(4, transactions));
        int width = Math.max(1, Math.min(4, keys));
        int calls = 6 + below(40);
        int writing = below(calls);
        for (int call = 0; call < calls; call++) {
            step("run " + run + ", call " + call, h, m, size, width, call < writing);
            if (call % 8 == 7) {
                compare("run " + run + ", after call " + call, h, m);
            }
        }
        boolean isAsking = below(3) == 0;
        for (int i = size - 1; i >= 0; i--) {
            close("run " + run + ", at the end", h, m, i, isAsking ? 5 : 0);
            compare("run " + run + ", after the end of " + i, h, m);
        }
    }

    /** Few writes, only reads of final versions and of the ground, and all commit: here the judgements part most. */
    private static void cleanRun(int run) {
        String what = "clean run " + run;
        int width = 2 + below(3);
        HistoryJudge h = new HistoryJudge(4, width);
        Model m = new Model(4, width);
        int writes = 2 + below(5);
        for (int call = 0; call < writes; call++) {
            int i = below(4);
            int x = below(width);
            DUE.is(what + ": write", h.write(i, x), m.write(i, x));
            if (below(2) == 0) {
                DUE.is(what + ": install", h.install(x, i), m.install(x, i));
            }
        }
        int reads = 1 + below(6);
        for (int call = 0; call < reads; call++) {
            readSome(what, h, m, below(4), below(width));
        }
        for (int i = 0; i < 4; i++) {
            DUE.is(what + ": commit", h.commit(i), m.close(i, 1));
        }
        compare(what, h, m);
    }

    private static void readSome(String what, HistoryJudge h, Model m, int i, int x) {
        int j = below(4);
        int v = m.versions(j, x);
        if (v == 0) {
            DUE.is(what + ": readGround", h.readGround(i, x), m.readGround(i, x));
        } else {
            DUE.is(what + ": read", h.read(i, x, j, v), m.read(i, x, j, v));
        }
    }

    /** Most writes come before most reads, so that many histories stay clean. */
    private static void step(String what, HistoryJudge h, Model m, int size, int width, boolean isWriting) {
        int i = some(size);
        int x = some(width);
        int j = some(size);
        int which = below(20) + (isWriting ? 0 : 13);
        if (which < 14) {
            DUE.is(what + ": write(" + i + ", " + x + ")", h.write(i, x), m.write(i, x));
        } else if (which < 19) {
            DUE.is(what + ": install(" + x + ", " + i + ")", h.install(x, i), m.install(x, i));
        } else if (which < 27) {
            int v = below(8) == 0 ? some(4) : m.versions(j, x);
            DUE.is(what + ": read(" + i + ", " + x + ", " + j + ", " + v + ")", h.read(i, x, j, v), m.read(i, x, j, v));
        } else if (which < 31) {
            DUE.is(what + ": readGround(" + i + ", " + x + ")", h.readGround(i, x), m.readGround(i, x));
        } else if (below(5) == 0) {
            close(what, h, m, i, below(6));
        }
    }

    private static void close(String what, HistoryJudge h, Model m, int i, int how) {
        if (how < 2) {
            DUE.is(what + ": commit(" + i + ")", h.commit(i), m.close(i, 1));
        } else if (how < 3) {
            DUE.is(what + ": abort(" + i + ")", h.abort(i), m.close(i, 2));
        } else {
            int kind = some(5);
            DUE.is(what + ": commitIf(" + i + ", " + kind + ")", h.commitIf(i, kind), m.commitIf(i, kind));
        }
    }

    private static void compare(String what, HistoryJudge h, Model m) {
        boolean[] got = {h.clean(), h.ordered(), h.sourced(), h.snapshot(), h.serial()};
        for (int kind = 0; kind < 5; kind++) {
            boolean want = m.judge(kind);
            seen[kind][want ? 1 : 0]++;
            DUE.is(what + ": judgement " + kind, got[kind], want);
        }
        snapshotsAlone += got[3] && !got[4] ? 1 : 0;
        for (int k = -1; k <= 4; k++) {
            DUE.is(what + ": serialAt(" + k + ")", h.serialAt(k), m.serialAt(k));
            DUE.is(what + ": state(" + k + ")", h.state(k), m.state(k));
        }
    }
}
