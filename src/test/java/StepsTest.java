/** Promises 1 to 9: the calls that build a history, one method here for each promise. */
public final class StepsTest {
    private static final int OPEN = 0;
    private static final int COMMITTED = 1;
    private static final int ABORTED = 2;
    private static final int OK = 0;
    private static final int BAD = -1;
    private static final int CLOSED = -2;
    private static final int MANY = -3;
    private static final int REFUSED = -4;
    private static final int LEAST = Integer.MIN_VALUE;
    private static final int GREATEST = Integer.MAX_VALUE;
    /** Numbers of no transaction and no key, whatever the size. */
    private static final int[] OUTSIDE = {-1, -4, 4, 5, 16, LEAST, GREATEST};

    private static final Due DUE = new Due();

    public static void main(String[] args) {
        newObject();
        sizes();
        write();
        read();
        readBadBeforeClosed();
        readGround();
        readOfEveryVersion();
        install();
        installInEveryState();
        commit();
        abort();
        commitIf();
        commitIfTakesAsJudged();
        state();
        objectsAreApart();
        DUE.end();
    }

    private static void newObject() {
        HistoryJudge h = new HistoryJudge(4, 4);
        for (int i = 0; i < 4; i++) {
            DUE.is("new: state(" + i + ")", h.state(i), OPEN);
            for (int x = 0; x < 4; x++) {
                DUE.is("new: nothing to read", h.read((i + 1) % 4, x, i, 1), MANY);
                DUE.is("new: nothing to install", h.install(x, i), MANY);
            }
        }
        DUE.judged("new", h, "cosnr");
        DUE.listed("new", h);
    }

    private static void sizes() {
        int[][] askedAndHad = {{LEAST, 1}, {-1, 1}, {0, 1}, {1, 1}, {2, 2}, {3, 3}, {4, 4}, {5, 4}, {64, 4}, {GREATEST, 4}};
        for (int[] t : askedAndHad) {
            for (int[] k : askedAndHad) {
                size(new HistoryJudge(t[0], k[0]), "of " + t[0] + ", " + k[0], t[1], k[1]);
            }
        }
    }

    private static void size(HistoryJudge h, String what, int transactions, int keys) {
        for (int i = -1; i < 6; i++) {
            boolean isThere = i >= 0 && i < transactions;
            DUE.is(what + ": state(" + i + ")", h.state(i), isThere ? OPEN : BAD);
            for (int x = -1; x < 6; x++) {
                boolean both = isThere && x >= 0 && x < keys;
                DUE.is(what + ": readGround(" + i + ", " + x + ")", h.readGround(i, x), both ? OK : BAD);
                DUE.is(what + ": write(" + i + ", " + x + ")", h.write(i, x), both ? 1 : BAD);
            }
        }
    }

    private static void write() {
        HistoryJudge h = new HistoryJudge(3, 2);
        for (int outside : OUTSIDE) {
            DUE.is("write: no transaction", h.write(outside, 0), BAD);
            DUE.is("write: no key", h.write(0, outside), BAD);
        }
        DUE.is("write: no transaction 3 of 3", h.write(3, 0), BAD);
        DUE.is("write: no key 2 of 2", h.write(0, 2), BAD);
        DUE.is("write: first", h.write(0, 0), 1);
        DUE.is("write: second", h.write(0, 0), 2);
        DUE.is("write: third", h.write(0, 0), MANY);
        DUE.is("write: fourth", h.write(0, 0), MANY);
        DUE.is("write: another key", h.write(0, 1), 1);
        DUE.is("write: another transaction", h.write(1, 0), 1);
        DUE.is("write: MANY left version 2", h.read(1, 0, 0, 2), OK);
        DUE.is("write: MANY made no version 3", h.read(1, 0, 0, 3), MANY);
        h.commit(0);
        h.abort(1);
        DUE.is("write: CLOSED before MANY", h.write(0, 0), CLOSED);
        DUE.is("write: CLOSED when committed", h.write(0, 1), CLOSED);
        DUE.is("write: CLOSED when aborted", h.write(1, 0), CLOSED);
        DUE.is("write: CLOSED made no version", h.read(2, 0, 1, 2), MANY);
        DUE.is("write: BAD before CLOSED", h.write(0, 2), BAD);
    }

    private static void read() {
        HistoryJudge h = new HistoryJudge(4, 2);
        h.write(1, 0);
        for (int outside : OUTSIDE) {
            DUE.is("read: no reader", h.read(outside, 0, 1, 1), BAD);
            DUE.is("read: no key", h.read(0, outside, 1, 1), BAD);
            DUE.is("read: no source", h.read(0, 0, outside, 1), BAD);
        }
        DUE.is("read: of itself", h.read(1, 0, 1, 1), BAD);
        int[] noVersions = {0, -1, 2, 3, 4, LEAST, GREATEST};
        for (int v : noVersions) {
            DUE.is("read: no version " + v, h.read(0, 0, 1, v), MANY);
        }
        DUE.is("read: no version of this key", h.read(0, 1, 1, 1), MANY);
        DUE.is("read: no version of this transaction", h.read(0, 0, 2, 1), MANY);
        DUE.is("read: of an open one", h.read(0, 0, 1, 1), OK);
        DUE.is("read: again", h.read(0, 0, 1, 1), OK);
        h.write(1, 0);
        DUE.is("read: the earlier version", h.read(2, 0, 1, 1), OK);
        DUE.is("read: the later version", h.read(2, 0, 1, 2), OK);
        DUE.is("read: version 3", h.read(2, 0, 1, 3), MANY);
        DUE.is("read: version 0", h.read(2, 0, 1, 0), MANY);
        h.commit(1);
        DUE.is("read: of a committed one", h.read(0, 0, 1, 2), OK);
        h.write(2, 0);
        h.abort(2);
        DUE.is("read: of an aborted one", h.read(0, 0, 2, 1), OK);
    }

    private static void readBadBeforeClosed() {
        HistoryJudge h = new HistoryJudge(3, 2);
        h.write(1, 0);
        h.commit(0);
        h.abort(2);
        DUE.is("read: CLOSED when committed", h.read(0, 0, 1, 1), CLOSED);
        DUE.is("read: CLOSED when aborted", h.read(2, 0, 1, 1), CLOSED);
        DUE.is("read: CLOSED before MANY", h.read(0, 1, 1, 9), CLOSED);
        DUE.is("read: BAD before CLOSED, of itself", h.read(0, 0, 0, 1), BAD);
        DUE.is("read: BAD before CLOSED, no source", h.read(0, 0, 3, 1), BAD);
        DUE.is("read: BAD before CLOSED, no key", h.read(0, 2, 1, 1), BAD);
        DUE.is("read: BAD before MANY", h.read(1, 0, 1, 9), BAD);
        DUE.judged("read: what was not taken is not there", h, "cosnr");
    }

    private static void readGround() {
        HistoryJudge h = new HistoryJudge(3, 2);
        for (int outside : OUTSIDE) {
            DUE.is("readGround: no transaction", h.readGround(outside, 0), BAD);
            DUE.is("readGround: no key", h.readGround(0, outside), BAD);
        }
        DUE.is("readGround: no transaction 3 of 3", h.readGround(3, 0), BAD);
        DUE.is("readGround: no key 2 of 2", h.readGround(0, 2), BAD);
        DUE.is("readGround: once", h.readGround(1, 1), OK);
        DUE.is("readGround: twice", h.readGround(1, 1), OK);
        h.write(1, 0);
        DUE.is("readGround: of a key it wrote", h.readGround(1, 0), OK);
        h.write(0, 1);
        h.commit(0);
        h.commit(1);
        DUE.listed("readGround: the read is there", h, 1, 0);
        DUE.is("readGround: CLOSED when committed", h.readGround(0, 0), CLOSED);
        h.abort(2);
        DUE.is("readGround: CLOSED when aborted", h.readGround(2, 0), CLOSED);
        DUE.is("readGround: BAD before CLOSED", h.readGround(2, 2), BAD);
        DUE.listed("readGround: CLOSED said no read", h, 1, 0);
    }

    /** Every read is kept apart from the others: the reader comes behind just the one whose version it read. */
    private static void readOfEveryVersion() {
        for (int place = 0; place < 4 * 4 * 4; place++) {
            int i = place / 16;
            int j = place % 4;
            if (i != j) {
                readOfOneVersion(i, place / 4 % 4, j, 1);
                readOfOneVersion(i, place / 4 % 4, j, 2);
            }
        }
    }

    private static void readOfOneVersion(int i, int x, int j, int v) {
        String what = "read(" + i + ", " + x + ", " + j + ", " + v + ")";
        HistoryJudge h = new HistoryJudge(4, 4);
        for (int version = 1; version <= v; version++) {
            h.write(j, x);
        }
        DUE.is(what, h.read(i, x, j, v), OK);
        h.commit(i);
        DUE.is(what + " of an open one: clean()", h.clean(), false);
        DUE.is(what + " of one that commits", h.commitIf(j, 0), OK);
        DUE.judged(what, h, "cosnr");
        DUE.listed(what, h, j, i);
    }

    private static void install() {
        HistoryJudge h = new HistoryJudge(3, 2);
        for (int outside : OUTSIDE) {
            DUE.is("install: no key", h.install(outside, 0), BAD);
            DUE.is("install: no transaction", h.install(0, outside), BAD);
        }
        h.write(2, 0);
        DUE.is("install: the key comes first", h.install(2, 0), BAD);
        DUE.is("install: no transaction 3 of 3", h.install(0, 3), BAD);
        DUE.is("install: another key not written", h.install(1, 2), MANY);
        DUE.is("install: written by another", h.install(0, 1), MANY);
        DUE.is("install: written", h.install(0, 2), OK);
        DUE.is("install: again", h.install(0, 2), REFUSED);
        h.write(2, 0);
        DUE.is("install: again after another write", h.install(0, 2), REFUSED);
        h.write(2, 1);
        h.write(2, 1);
        DUE.is("install: once for two writes", h.install(1, 2), OK);
        DUE.is("install: but once", h.install(1, 2), REFUSED);
        h.readGround(0, 0);
        DUE.is("install: reading is not writing", h.install(0, 0), MANY);
    }

    private static void installInEveryState() {
        HistoryJudge h = new HistoryJudge(3, 1);
        h.write(0, 0);
        h.write(1, 0);
        h.write(2, 0);
        h.commit(1);
        h.abort(2);
        DUE.is("install: aborted", h.install(0, 2), OK);
        DUE.is("install: committed", h.install(0, 1), OK);
        DUE.is("install: open", h.install(0, 0), OK);
        DUE.is("install: committed, again", h.install(0, 1), REFUSED);
        DUE.is("install: aborted, again", h.install(0, 2), REFUSED);
        DUE.is("install: changes no state", h.state(0), OPEN);
        h.commit(0);
        DUE.listed("install: the order of installing", h, 1, 0);
    }

    private static void commit() {
        HistoryJudge h = new HistoryJudge(3, 1);
        for (int outside : OUTSIDE) {
            DUE.is("commit: no transaction", h.commit(outside), BAD);
        }
        DUE.is("commit: no transaction 3 of 3", h.commit(3), BAD);
        DUE.is("commit: open", h.commit(1), OK);
        DUE.is("commit: now", h.state(1), COMMITTED);
        DUE.is("commit: not the one before", h.state(0), OPEN);
        DUE.is("commit: not the one behind", h.state(2), OPEN);
        DUE.is("commit: committed", h.commit(1), CLOSED);
        h.abort(2);
        DUE.is("commit: aborted", h.commit(2), CLOSED);
        DUE.is("commit: still aborted", h.state(2), ABORTED);
    }

    private static void abort() {
        HistoryJudge h = new HistoryJudge(3, 1);
        for (int outside : OUTSIDE) {
            DUE.is("abort: no transaction", h.abort(outside), BAD);
        }
        DUE.is("abort: no transaction 3 of 3", h.abort(3), BAD);
        DUE.is("abort: open", h.abort(1), OK);
        DUE.is("abort: now", h.state(1), ABORTED);
        DUE.is("abort: not the one before", h.state(0), OPEN);
        DUE.is("abort: not the one behind", h.state(2), OPEN);
        DUE.is("abort: aborted", h.abort(1), CLOSED);
        h.commit(2);
        DUE.is("abort: committed", h.abort(2), CLOSED);
        DUE.is("abort: still committed", h.state(2), COMMITTED);
    }

    private static void commitIf() {
        HistoryJudge h = new HistoryJudge(3, 1);
        for (int outside : OUTSIDE) {
            DUE.is("commitIf: no transaction", h.commitIf(outside, 0), BAD);
        }
        int[] noKinds = {-1, 5, 6, LEAST, GREATEST};
        for (int kind : noKinds) {
            DUE.is("commitIf: no kind " + kind, h.commitIf(0, kind), BAD);
        }
        DUE.is("commitIf: BAD changes nothing", h.state(0), OPEN);
        h.commit(1);
        h.abort(2);
        for (int kind = 0; kind <= 4; kind++) {
            DUE.is("commitIf: committed", h.commitIf(1, kind), CLOSED);
            DUE.is("commitIf: aborted", h.commitIf(2, kind), CLOSED);
        }
        DUE.is("commitIf: BAD before CLOSED", h.commitIf(1, 5), BAD);
        DUE.is("commitIf: still committed", h.state(1), COMMITTED);
        DUE.is("commitIf: still aborted", h.state(2), ABORTED);
        for (int kind = 0; kind <= 4; kind++) {
            HistoryJudge g = new HistoryJudge(1, 1);
            DUE.is("commitIf: alone", g.commitIf(0, kind), OK);
            DUE.is("commitIf: alone, now", g.state(0), COMMITTED);
        }
    }

    private static final int UNCLEAN = 0;
    private static final int DISORDER = 1;
    private static final int BACKWARD_READ = 2;
    private static final int OLD_READ = 3;
    private static final int WRITE_SKEW = 4;

    /** Histories in which transaction 1 is still to commit, and of which kinds they are when it has. */
    private static void commitIfTakesAsJudged() {
        boolean[][] kindsByHistory = new boolean[5][];
        kindsByHistory[UNCLEAN] = new boolean[] {false, true, false, false, false};
        kindsByHistory[DISORDER] = new boolean[] {true, false, false, false, false};
        kindsByHistory[BACKWARD_READ] = new boolean[] {true, true, false, false, false};
        kindsByHistory[OLD_READ] = new boolean[] {true, true, true, false, false};
        kindsByHistory[WRITE_SKEW] = new boolean[] {true, true, true, true, false};
        for (int which = 0; which < 5; which++) {
            for (int kind = 0; kind < 5; kind++) {
                String what = "commitIf: history " + which + ", kind " + kind;
                HistoryJudge h = history(which);
                boolean isTaken = kindsByHistory[which][kind];
                DUE.is(what, h.commitIf(1, kind), isTaken ? OK : REFUSED);
                DUE.is(what + ", state", h.state(1), isTaken ? COMMITTED : ABORTED);
                DUE.is(what + ", the other", h.state(0), COMMITTED);
                DUE.is(what + ", then", h.commitIf(1, kind), CLOSED);
            }
        }
    }

    private static HistoryJudge history(int which) {
        HistoryJudge h = new HistoryJudge(3, 2);
        if (which == UNCLEAN) {
            h.write(2, 0);
            h.read(1, 0, 2, 1);
        } else if (which == DISORDER) {
            writeBoth(h);
            h.install(0, 0);
            h.install(0, 1);
            h.install(1, 1);
            h.install(1, 0);
        } else if (which == BACKWARD_READ) {
            h.write(1, 0);
            h.write(0, 0);
            h.read(0, 0, 1, 1);
            h.write(0, 1);
            h.write(1, 1);
            h.install(1, 0);
        } else if (which == OLD_READ) {
            h.write(0, 0);
            h.read(1, 0, 0, 1);
            h.readGround(1, 0);
        } else {
            h.write(0, 0);
            h.write(1, 1);
            h.readGround(0, 1);
            h.readGround(1, 0);
        }
        h.commit(0);
        return h;
    }

    private static void writeBoth(HistoryJudge h) {
        for (int i = 0; i < 2; i++) {
            h.write(i, 0);
            h.write(i, 1);
        }
    }

    private static void state() {
        HistoryJudge h = new HistoryJudge(3, 1);
        for (int outside : OUTSIDE) {
            DUE.is("state: no transaction", h.state(outside), BAD);
        }
        h.commit(0);
        h.abort(1);
        for (int again = 0; again < 2; again++) {
            DUE.is("state: committed", h.state(0), COMMITTED);
            DUE.is("state: aborted", h.state(1), ABORTED);
            DUE.is("state: open", h.state(2), OPEN);
            DUE.is("state: no transaction 3 of 3", h.state(3), BAD);
        }
    }

    private static void objectsAreApart() {
        HistoryJudge one = new HistoryJudge(2, 2);
        HistoryJudge other = new HistoryJudge(2, 2);
        one.write(0, 0);
        one.commit(0);
        DUE.is("apart: state", other.state(0), OPEN);
        DUE.is("apart: write", other.write(0, 0), 1);
    }
}
