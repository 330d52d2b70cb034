/** Promises 1 to 9: each sentence of the document that names a boundary case has a test of its own here, under its words. */
public final class StepEdgesTest {
    private static final int OPEN = 0;
    private static final int COMMITTED = 1;
    private static final int ABORTED = 2;
    private static final int OK = 0;
    private static final int BAD = -1;
    private static final int CLOSED = -2;
    private static final int MANY = -3;
    private static final int REFUSED = -4;
    private static final int LEAST = Integer.MIN_VALUE;
    private static final int GREATEST = Integer.MAX_VALUE;
    /** Too small and too large whatever the size; the last ones come back to 0 or 1 when they are cut, doubled or multiplied by 4. */
    private static final int[] NOWHERE = {-1, -2, -4, 4, 5, 8, 16, LEAST, LEAST + 1, GREATEST, 1 << 16, 1 << 30, (1 << 30) + 1, 3 << 30};

    private static final Due DUE = new Due();

    public static void main(String[] args) {
        newObject();
        write();
        read();
        readGround();
        install();
        commitAndAbort();
        commitIf();
        state();
        DUE.end();
    }

    // Promise 1

    private static void newObject() {
        transactionsClamped();
        keysClamped();
        allOpen();
        noWrites();
        noReads();
        emptyVersionOrders();
    }

    private static final int[][] ASKED_AND_HAD = {
        {LEAST, 1}, {LEAST + 1, 1}, {-4, 1}, {-1, 1}, {0, 1}, {1, 1}, {2, 2}, {3, 3}, {4, 4}, {5, 4}, {8, 4}, {GREATEST - 1, 4}, {GREATEST, 4},
    };

    private static void transactionsClamped() {
        DUE.sentence("Promise 1: transactions: clamped to 1 .. 4");
        for (int[] size : ASKED_AND_HAD) {
            for (int keys = 1; keys <= 4; keys++) {
                String what = "of " + size[0] + ", " + keys;
                HistoryJudge h = new HistoryJudge(size[0], keys);
                DUE.is(what + ": the first", h.state(0), OPEN);
                DUE.is(what + ": the last", h.state(size[1] - 1), OPEN);
                DUE.is(what + ": one more", h.state(size[1]), BAD);
                DUE.is(what + ": the last commits", h.commit(size[1] - 1), OK);
                DUE.is(what + ": one more commits", h.commit(size[1]), BAD);
            }
        }
    }

    private static void keysClamped() {
        DUE.sentence("Promise 1: keys: clamped to 1 .. 4");
        for (int[] size : ASKED_AND_HAD) {
            for (int transactions = 1; transactions <= 4; transactions++) {
                String what = "of " + transactions + ", " + size[0];
                HistoryJudge h = new HistoryJudge(transactions, size[0]);
                DUE.is(what + ": the first", h.write(0, 0), 1);
                DUE.is(what + ": the last", h.readGround(0, size[1] - 1), OK);
                DUE.is(what + ": one more", h.readGround(0, size[1]), BAD);
                DUE.is(what + ": one more written", h.write(0, size[1]), BAD);
            }
        }
    }

    private static void allOpen() {
        DUE.sentence("Promise 1: All transactions OPEN");
        for (int size = 1; size <= 4; size++) {
            HistoryJudge h = new HistoryJudge(size, 1);
            for (int i = 0; i < size; i++) {
                DUE.is("state(" + i + ") of " + size, h.state(i), OPEN);
            }
        }
    }

    private static void noWrites() {
        DUE.sentence("Promise 1: no writes");
        HistoryJudge h = new HistoryJudge(4, 4);
        for (int cell = 0; cell < 16; cell++) {
            DUE.is("nothing to read at " + cell, h.read((cell / 4 + 1) % 4, cell % 4, cell / 4, 1), MANY);
            DUE.is("nothing to install at " + cell, h.install(cell % 4, cell / 4), MANY);
        }
        for (int cell = 0; cell < 16; cell++) {
            DUE.is("the first write at " + cell, h.write(cell / 4, cell % 4), 1);
        }
    }

    /** A read of the key that was there already would not fit beside the one that is said. */
    private static void noReads() {
        DUE.sentence("Promise 1: no reads");
        for (int cell = 0; cell < 16; cell++) {
            int i = cell / 4;
            int x = cell % 4;
            int j = (i + 1) % 4;
            HistoryJudge h = Run.of("w" + j + x + " r" + i + x + j + "1 c" + j + " c" + i);
            DUE.is("one read at " + cell, h.serial(), true);
            HistoryJudge g = Run.of("w" + j + x + " g" + i + x + " c" + j + " c" + i);
            DUE.is("one read of the ground at " + cell, g.serial(), true);
        }
    }

    private static void emptyVersionOrders() {
        DUE.sentence("Promise 1: empty version orders");
        for (int x = 0; x < 4; x++) {
            HistoryJudge h = new HistoryJudge(4, 4);
            for (int i = 3; i >= 0; i--) {
                h.write(i, x);
                DUE.is("install(" + x + ", " + i + ")", h.install(x, i), OK);
                h.commit(i);
            }
            DUE.listed("nobody stood before the first", h, 3, 2, 1, 0);
        }
    }

    // Promise 2

    private static void write() {
        writeNoTransaction();
        writeNoKey();
        writeClosed();
        writeMany();
        writeOtherwise();
        writeByTheFirst();
        writeOnlyThen();
    }

    private static void writeNoTransaction() {
        DUE.sentence("Promise 2: BAD when there is no transaction i");
        for (int size = 1; size <= 4; size++) {
            HistoryJudge h = new HistoryJudge(size, 4);
            for (int nowhere : NOWHERE) {
                DUE.is("write(" + nowhere + ", 0) of " + size, h.write(nowhere, 0), BAD);
            }
            DUE.is("one too large of " + size, h.write(size, 0), BAD);
            DUE.is("the last of " + size, h.write(size - 1, 0), 1);
        }
    }

    private static void writeNoKey() {
        DUE.sentence("Promise 2: BAD when there is .. no key x");
        for (int size = 1; size <= 4; size++) {
            HistoryJudge h = new HistoryJudge(4, size);
            for (int nowhere : NOWHERE) {
                DUE.is("write(0, " + nowhere + ") of " + size, h.write(0, nowhere), BAD);
            }
            DUE.is("one too large of " + size, h.write(0, size), BAD);
            DUE.is("the last of " + size, h.write(0, size - 1), 1);
        }
    }

    private static void writeClosed() {
        DUE.sentence("Promise 2: CLOSED when i is not OPEN");
        HistoryJudge h = Run.of("w00 c0 w10 a1");
        DUE.is("committed", h.write(0, 0), CLOSED);
        DUE.is("committed, a new key", h.write(0, 1), CLOSED);
        DUE.is("aborted", h.write(1, 0), CLOSED);
        DUE.is("aborted, a new key", h.write(1, 1), CLOSED);
        DUE.is("open", h.write(2, 0), 1);
        h.commitIf(2, 4);
        DUE.is("committed by commitIf", h.write(2, 0), CLOSED);
        h.readGround(3, 0);
        h.read(3, 0, 0, 1);
        h.commitIf(3, 4);
        DUE.is("aborted by commitIf", h.write(3, 0), CLOSED);
    }

    private static void writeMany() {
        DUE.sentence("Promise 2: MANY when i wrote x twice already");
        HistoryJudge h = Run.of("w33 w33");
        for (int again = 3; again < 40; again++) {
            DUE.is("write " + again, h.write(3, 3), MANY);
        }
        DUE.is("version 2 is still the last", h.read(0, 3, 3, 2), OK);
        DUE.is("no version 3", h.read(0, 3, 3, 3), MANY);
        for (int cell = 0; cell < 15; cell++) {
            DUE.is("another at " + cell, h.write(cell / 4, cell % 4), 1);
        }
    }

    private static void writeOtherwise() {
        DUE.sentence("Promise 2: otherwise the number of the new version (1 or 2)");
        HistoryJudge h = new HistoryJudge(4, 4);
        for (int version = 1; version <= 2; version++) {
            for (int cell = 0; cell < 16; cell++) {
                DUE.is("version " + version + " at " + cell, h.write(cell / 4, cell % 4), version);
            }
        }
    }

    private static void writeByTheFirst() {
        DUE.sentence("Promise 2: by the first that applies");
        HistoryJudge h = Run.of(3, 2, "w00 w00 c0 w10 w10 a1");
        DUE.is("BAD and CLOSED, committed", h.write(0, 2), BAD);
        DUE.is("BAD and CLOSED, aborted", h.write(1, -1), BAD);
        DUE.is("CLOSED and MANY, committed", h.write(0, 0), CLOSED);
        DUE.is("CLOSED and MANY, aborted", h.write(1, 0), CLOSED);
        DUE.is("BAD twice", h.write(3, 2), BAD);
    }

    private static void writeOnlyThen() {
        DUE.sentence("Promise 2: Only then anything changes");
        HistoryJudge h = Run.of(3, 2, "w00 c0 w11 w11");
        DUE.is("CLOSED", h.write(0, 0), CLOSED);
        DUE.is("no version 2 came of it", h.read(2, 0, 0, 2), MANY);
        DUE.is("CLOSED, a new key", h.write(0, 1), CLOSED);
        DUE.is("no version 1 came of it", h.read(2, 1, 0, 1), MANY);
        DUE.is("it is no writer of it", h.install(1, 0), MANY);
        DUE.is("MANY", h.write(1, 1), MANY);
        DUE.is("it is still open", h.state(1), OPEN);
        DUE.is("BAD, no key", h.write(1, 4), BAD);
        DUE.is("BAD, no key below", h.write(1, -1), BAD);
        DUE.is("BAD, no transaction", h.write(-1, 0), BAD);
        DUE.is("nothing was written", h.write(1, 0), 1);
        DUE.is("nothing was written either", h.write(2, 0), 1);
        DUE.is("nor there", h.write(2, 1), 1);
    }

    // Promise 3

    private static void read() {
        readNoReader();
        readNoSource();
        readNoKey();
        readOfItself();
        readClosed();
        readMany();
        readAnyInt();
        readByTheFirst();
        readIsThere();
    }

    private static void readNoReader() {
        DUE.sentence("Promise 3: BAD when there is no transaction i");
        for (int size = 1; size <= 4; size++) {
            HistoryJudge h = Run.of(size, 1, "w00");
            for (int nowhere : NOWHERE) {
                DUE.is("read(" + nowhere + ", 0, 0, 1) of " + size, h.read(nowhere, 0, 0, 1), BAD);
            }
            DUE.is("one too large of " + size, h.read(size, 0, 0, 1), BAD);
            DUE.is("the last of " + size, h.read(size - 1, 0, 0, 1), size == 1 ? BAD : OK);
        }
    }

    private static void readNoSource() {
        DUE.sentence("Promise 3: BAD when there is no transaction .. j");
        for (int size = 1; size <= 4; size++) {
            HistoryJudge h = Run.of(size, 1, "w" + (size - 1) + "0");
            for (int nowhere : NOWHERE) {
                DUE.is("read(0, 0, " + nowhere + ", 1) of " + size, h.read(0, 0, nowhere, 1), BAD);
            }
            DUE.is("one too large of " + size, h.read(0, 0, size, 1), BAD);
            DUE.is("the last of " + size, h.read(0, 0, size - 1, 1), size == 1 ? BAD : OK);
        }
    }

    private static void readNoKey() {
        DUE.sentence("Promise 3: BAD when there is .. no key x");
        for (int size = 1; size <= 4; size++) {
            HistoryJudge h = Run.of(4, size, "w1" + (size - 1));
            for (int nowhere : NOWHERE) {
                DUE.is("read(0, " + nowhere + ", 1, 1) of " + size, h.read(0, nowhere, 1, 1), BAD);
            }
            DUE.is("one too large of " + size, h.read(0, size, 1, 1), BAD);
            DUE.is("the last of " + size, h.read(0, size - 1, 1, 1), OK);
        }
    }

    private static void readOfItself() {
        DUE.sentence("Promise 3: BAD when .. i = j");
        HistoryJudge h = Run.of("w00 w10 w20 w30");
        for (int i = 0; i < 4; i++) {
            DUE.is("its own version", h.read(i, 0, i, 1), BAD);
            DUE.is("its own version that is not there", h.read(i, 0, i, 2), BAD);
            DUE.is("a version of the next", h.read(i, 0, (i + 1) % 4, 1), OK);
        }
    }

    private static void readClosed() {
        DUE.sentence("Promise 3: CLOSED when i is not OPEN");
        HistoryJudge h = Run.of("w30 c0 a1");
        DUE.is("committed", h.read(0, 0, 3, 1), CLOSED);
        DUE.is("aborted", h.read(1, 0, 3, 1), CLOSED);
        DUE.is("open", h.read(2, 0, 3, 1), OK);
        DUE.is("refused by commitIf", h.commitIf(2, 0), REFUSED);
        DUE.is("aborted by commitIf", h.read(2, 0, 3, 1), CLOSED);
        h.commit(3);
        DUE.judged("no read came of it", h, "cosnr");
        DUE.listed("no read came of it", h, 0, 3);
    }

    private static void readMany() {
        DUE.sentence("Promise 3: MANY when j has made no version v of x");
        HistoryJudge h = new HistoryJudge(4, 4);
        DUE.is("version 1 of none", h.read(0, 0, 1, 1), MANY);
        DUE.is("version 0 of none", h.read(0, 0, 1, 0), MANY);
        Run.more(h, "w10");
        DUE.is("version 2 of one", h.read(0, 0, 1, 2), MANY);
        DUE.is("version 1 of one", h.read(0, 0, 1, 1), OK);
        DUE.is("version 0 of one", h.read(0, 0, 1, 0), MANY);
        Run.more(h, "w10");
        DUE.is("version 3 of two", h.read(0, 0, 1, 3), MANY);
        DUE.is("version 2 of two", h.read(0, 0, 1, 2), OK);
        DUE.is("version 1 of two", h.read(0, 0, 1, 1), OK);
        DUE.is("version 0 of two", h.read(0, 0, 1, 0), MANY);
        for (int x = 1; x < 4; x++) {
            DUE.is("of another key", h.read(0, x, 1, 1), MANY);
        }
        DUE.is("of another transaction", h.read(0, 0, 2, 1), MANY);
        DUE.is("of the one before", h.read(1, 0, 0, 1), MANY);
        DUE.is("another reader's reading makes no version", h.read(2, 0, 0, 1), MANY);

        HistoryJudge g = Run.of("w10");
        DUE.is("a version that comes only later", g.read(0, 0, 1, 2), MANY);
        Run.more(g, "w10 c0 c1");
        DUE.listed("no read came of it", g, 0, 1);
    }

    private static void readAnyInt() {
        DUE.sentence("Promise 3: (v may be any int)");
        int[] noVersions = {LEAST, LEAST + 1, LEAST + 2, -128, -33, -2, -1, 0, 3, 4, 5, 9, 129, 257, 1 << 16, (1 << 16) + 1, GREATEST - 1, GREATEST};
        HistoryJudge h = Run.of("w00 w00 w30 w30 w03 w03");
        for (int v : noVersions) {
            DUE.is("version " + v, h.read(1, 0, 0, v), MANY);
            DUE.is("version " + v + " to the first cell", h.read(0, 0, 3, v), MANY);
            DUE.is("version " + v + " to the last cell", h.read(3, 3, 0, v), MANY);
        }
        Run.more(h, "c0 c1 c3");
        DUE.judged("no read came of it", h, "cosnr");
    }

    private static void readByTheFirst() {
        DUE.sentence("Promise 3: by the first that applies");
        HistoryJudge h = Run.of(4, 2, "w20 c0 a1");
        for (int i = 0; i < 2; i++) {
            DUE.is("BAD and CLOSED, no source, " + i, h.read(i, 0, 4, 1), BAD);
            DUE.is("BAD and CLOSED, no key, " + i, h.read(i, 2, 2, 1), BAD);
            DUE.is("BAD and CLOSED, itself, " + i, h.read(i, 0, i, 1), BAD);
            DUE.is("BAD, CLOSED and MANY, itself, " + i, h.read(i, 0, i, 0), BAD);
            DUE.is("CLOSED and MANY, version 2 of one, " + i, h.read(i, 0, 2, 2), CLOSED);
            DUE.is("CLOSED and MANY, version 1 of none, " + i, h.read(i, 1, 2, 1), CLOSED);
            DUE.is("CLOSED and MANY, any int, " + i, h.read(i, 0, 2, LEAST), CLOSED);
        }
        DUE.is("BAD and MANY, no source", h.read(3, 0, -1, 0), BAD);
        DUE.is("BAD and MANY, no key", h.read(3, -1, 2, GREATEST), BAD);
        DUE.is("BAD and MANY, itself", h.read(3, 0, 3, 1), BAD);
        DUE.is("BAD and MANY, no reader", h.read(4, 0, 2, 7), BAD);
    }

    private static void readIsThere() {
        DUE.sentence("Promise 3: otherwise OK, and the read is there");
        HistoryJudge h = Run.of("w30 w30 w20 c2 w10 a1");
        DUE.is("of an open one, not its last", h.read(0, 0, 3, 1), OK);
        DUE.is("of a committed one", h.read(0, 0, 2, 1), OK);
        DUE.is("of an aborted one", h.read(0, 0, 1, 1), OK);
        h.commit(0);
        DUE.is("the reads are there", h.clean(), false);

        HistoryJudge g = Run.of("w30 r0031 c3");
        DUE.listed("a read that is there and does not count yet", g, 3);
        g.commit(0);
        DUE.listed("a read that is there", g, 3, 0);
    }

    // Promise 4

    private static void readGround() {
        groundNoTransaction();
        groundNoKey();
        groundClosed();
        groundByTheFirst();
        groundIsThere();
    }

    private static void groundNoTransaction() {
        DUE.sentence("Promise 4: BAD when there is no transaction i");
        for (int size = 1; size <= 4; size++) {
            HistoryJudge h = new HistoryJudge(size, 4);
            for (int nowhere : NOWHERE) {
                DUE.is("readGround(" + nowhere + ", 0) of " + size, h.readGround(nowhere, 0), BAD);
            }
            DUE.is("one too large of " + size, h.readGround(size, 0), BAD);
            DUE.is("the last of " + size, h.readGround(size - 1, 0), OK);
        }
    }

    private static void groundNoKey() {
        DUE.sentence("Promise 4: BAD when there is no .. key x");
        for (int size = 1; size <= 4; size++) {
            HistoryJudge h = new HistoryJudge(4, size);
            for (int nowhere : NOWHERE) {
                DUE.is("readGround(0, " + nowhere + ") of " + size, h.readGround(0, nowhere), BAD);
            }
            DUE.is("one too large of " + size, h.readGround(0, size), BAD);
            DUE.is("the last of " + size, h.readGround(0, size - 1), OK);
        }
    }

    private static void groundClosed() {
        DUE.sentence("Promise 4: CLOSED when i is not OPEN");
        HistoryJudge h = Run.of("w00 c0 r1001 c1 a2");
        DUE.is("committed", h.readGround(1, 0), CLOSED);
        DUE.is("committed, another key", h.readGround(1, 1), CLOSED);
        DUE.is("aborted", h.readGround(2, 0), CLOSED);
        DUE.judged("no read came of it", h, "cosnr");
        DUE.is("open", h.readGround(3, 0), OK);
    }

    private static void groundByTheFirst() {
        DUE.sentence("Promise 4: BAD and CLOSED both apply");
        HistoryJudge h = Run.of(3, 2, "c0 a1");
        DUE.is("committed, one key too far", h.readGround(0, 2), BAD);
        DUE.is("aborted, a key below", h.readGround(1, -1), BAD);
    }

    private static void groundIsThere() {
        DUE.sentence("Promise 4: otherwise OK, and the read is there");
        for (int cell = 0; cell < 16; cell++) {
            int i = cell / 4;
            int x = cell % 4;
            int j = (i + 3) % 4;
            HistoryJudge h = Run.of("w" + j + x);
            DUE.is("readGround at " + cell, h.readGround(i, x), OK);
            Run.more(h, "c" + i + " c" + j);
            DUE.listed("it comes before the writer, at " + cell, h, i, j);
        }
        HistoryJudge g = new HistoryJudge(1, 1);
        DUE.is("of a key that nobody wrote", g.readGround(0, 0), OK);
        Run.more(g, "w00 w00");
        DUE.is("of a key that it wrote twice itself", g.readGround(0, 0), OK);
        DUE.is("so it can be committed", g.commitIf(0, 4), OK);
    }

    // Promise 5

    private static void install() {
        installNoTransaction();
        installNoKey();
        installMany();
        installRefused();
        installByTheFirst();
        installInAnyState();
        installToTheFull();
    }

    private static void installNoTransaction() {
        DUE.sentence("Promise 5: BAD when there is no transaction i");
        for (int size = 1; size <= 4; size++) {
            HistoryJudge h = Run.of(size, 4, "w" + (size - 1) + "0");
            for (int nowhere : NOWHERE) {
                DUE.is("install(0, " + nowhere + ") of " + size, h.install(0, nowhere), BAD);
            }
            DUE.is("one too large of " + size, h.install(0, size), BAD);
            DUE.is("the last of " + size, h.install(0, size - 1), OK);
        }
    }

    private static void installNoKey() {
        DUE.sentence("Promise 5: BAD when there is no .. key x");
        for (int size = 1; size <= 4; size++) {
            HistoryJudge h = Run.of(4, size, "w0" + (size - 1));
            for (int nowhere : NOWHERE) {
                DUE.is("install(" + nowhere + ", 0) of " + size, h.install(nowhere, 0), BAD);
            }
            DUE.is("one too large of " + size, h.install(size, 0), BAD);
            DUE.is("the last of " + size, h.install(size - 1, 0), OK);
        }
    }

    private static void installMany() {
        DUE.sentence("Promise 5: MANY when i has not written x");
        HistoryJudge h = new HistoryJudge(4, 4);
        for (int cell = 0; cell < 16; cell++) {
            DUE.is("nothing written, " + cell, h.install(cell % 4, cell / 4), MANY);
        }
        Run.more(h, "w12 g32 r3211");
        for (int cell = 0; cell < 16; cell++) {
            DUE.is("written at 6, " + cell, h.install(cell % 4, cell / 4), cell == 6 ? OK : MANY);
        }
        Run.more(h, "c0 a3");
        DUE.is("committed and not written", h.install(0, 0), MANY);
        DUE.is("aborted and not written", h.install(0, 3), MANY);
    }

    private static void installRefused() {
        DUE.sentence("Promise 5: REFUSED when i is in the version order of x already");
        HistoryJudge h = Run.of("w00 w10 w01 w11 p01 p00");
        DUE.is("the first again", h.install(0, 1), REFUSED);
        DUE.is("the last again", h.install(0, 0), REFUSED);
        DUE.is("not in that of another key", h.install(1, 0), OK);
        DUE.is("nor this", h.install(1, 1), OK);
        Run.more(h, "w00");
        DUE.is("again after its second version", h.install(0, 0), REFUSED);
        Run.more(h, "c0");
        DUE.is("again when committed", h.install(0, 0), REFUSED);
        DUE.is("again when the other is committed", h.install(0, 1), REFUSED);

        HistoryJudge g = Run.of("w00 w10 p01 p00");
        DUE.is("again", g.install(0, 1), REFUSED);
        Run.more(g, "c0 c1");
        DUE.listed("it stays where it was", g, 1, 0);

        HistoryJudge f = Run.of("w00 w10 w20 p02");
        for (int again = 0; again < 40; again++) {
            DUE.is("again and again", f.install(0, 2), REFUSED);
            DUE.is("again and again, not written", f.install(0, 3), MANY);
        }
        Run.more(f, "p01 c0 c1 c2");
        DUE.listed("the next one comes right behind it", f, 2, 1, 0);
    }

    private static void installByTheFirst() {
        DUE.sentence("Promise 5: by the first that applies");
        HistoryJudge h = Run.of(3, 2, "w00 p00");
        DUE.is("BAD and not written, no key", h.install(2, 0), BAD);
        DUE.is("BAD and not written, no transaction", h.install(0, 3), BAD);
        DUE.is("BAD, both", h.install(-1, -1), BAD);
        HistoryJudge g = Run.of(4, 1, "w30");
        DUE.is("the key comes before the transaction", g.install(0, 3), OK);
        DUE.is("and not behind it", g.install(3, 0), BAD);
    }

    private static void installInAnyState() {
        DUE.sentence("Promise 5: (i may be OPEN, COMMITTED or ABORTED.)");
        HistoryJudge h = Run.of("w00 w10 w20 w30 c1 a2");
        DUE.is("committed by commitIf", h.commitIf(3, 4), OK);
        DUE.is("COMMITTED", h.install(0, 3), OK);
        DUE.is("ABORTED", h.install(0, 2), OK);
        DUE.is("COMMITTED too", h.install(0, 1), OK);
        DUE.is("OPEN", h.install(0, 0), OK);
        for (int i = 0; i < 4; i++) {
            DUE.is("then REFUSED, " + i, h.install(0, i), REFUSED);
        }
        DUE.is("OPEN as before", h.state(0), OPEN);
        DUE.is("ABORTED as before", h.state(2), ABORTED);
        Run.more(h, "c0");
        DUE.listed("in the order of installing", h, 3, 1, 0);
    }

    /** Every order of four in every key, each key turned round to another one. */
    private static void installToTheFull() {
        DUE.sentence("Promise 5: Appends transaction i to the version order of key x");
        for (int code = 0; code < 256; code++) {
            int[] order = {code / 64, code / 16 % 4, code / 4 % 4, code % 4};
            if (isOrder(order)) {
                fullOrder(order, code % 3);
            }
        }
        HistoryJudge h = Run.of("w00 w10 p00 p01 w01 w11 p11 p10 c0 c1");
        DUE.is("appended, not put in front", h.ordered(), false);
    }

    private static boolean isOrder(int[] members) {
        int seen = 0;
        for (int i : members) {
            seen |= 1 << i;
        }
        return seen == 15;
    }

    private static void fullOrder(int[] order, int x) {
        HistoryJudge h = new HistoryJudge(4, 3);
        for (int i = 0; i < 4; i++) {
            Run.more(h, "w" + i + x);
        }
        for (int i : order) {
            DUE.is("install(" + x + ", " + i + ")", h.install(x, i), OK);
        }
        Run.more(h, "c0 c1 c2 c3");
        DUE.listed("as installed", h, order);
    }

    // Promises 6 and 7

    private static void commitAndAbort() {
        commitNoTransaction();
        commitClosed();
        commitOtherwise();
        abortNoTransaction();
        abortClosed();
        abortOtherwise();
    }

    private static void commitNoTransaction() {
        DUE.sentence("Promise 6: BAD when there is no transaction i");
        for (int size = 1; size <= 4; size++) {
            HistoryJudge h = new HistoryJudge(size, 4);
            for (int nowhere : NOWHERE) {
                DUE.is("commit(" + nowhere + ") of " + size, h.commit(nowhere), BAD);
            }
            DUE.is("one too large of " + size, h.commit(size), BAD);
            DUE.is("the last of " + size, h.commit(size - 1), OK);
            DUE.is("one too large of " + size + " still", h.commit(size), BAD);
        }
    }

    private static void commitClosed() {
        DUE.sentence("Promise 6: CLOSED when it is not OPEN");
        HistoryJudge h = Run.of("c0 a1");
        DUE.is("committed", h.commit(0), CLOSED);
        DUE.is("still committed", h.state(0), COMMITTED);
        DUE.is("aborted", h.commit(1), CLOSED);
        DUE.is("still aborted", h.state(1), ABORTED);
        h.commitIf(2, 4);
        DUE.is("committed by commitIf", h.commit(2), CLOSED);
        DUE.listed("the aborted one is not among them", h, 0, 2);
    }

    private static void commitOtherwise() {
        DUE.sentence("Promise 6: otherwise OK");
        HistoryJudge h = Run.of("w10 r0011 w10 a1");
        DUE.is("whatever is judged of it", h.commit(0), OK);
        DUE.is("now", h.state(0), COMMITTED);
        DUE.is("the one behind", h.state(2), OPEN);
        DUE.judged("unclean", h, "o");
        DUE.is("in a history that is unclean", h.commit(2), OK);
        DUE.is("the last one", h.commit(3), OK);
        DUE.is("the last one, now", h.state(3), COMMITTED);
    }

    private static void abortNoTransaction() {
        DUE.sentence("Promise 7: BAD when there is no transaction i");
        for (int size = 1; size <= 4; size++) {
            HistoryJudge h = new HistoryJudge(size, 4);
            for (int nowhere : NOWHERE) {
                DUE.is("abort(" + nowhere + ") of " + size, h.abort(nowhere), BAD);
            }
            DUE.is("one too large of " + size, h.abort(size), BAD);
            DUE.is("the last of " + size, h.abort(size - 1), OK);
            DUE.is("one too large of " + size + " still", h.abort(size), BAD);
        }
    }

    private static void abortClosed() {
        DUE.sentence("Promise 7: CLOSED when it is not OPEN");
        HistoryJudge h = Run.of("c0 a1");
        DUE.is("committed", h.abort(0), CLOSED);
        DUE.is("still committed", h.state(0), COMMITTED);
        DUE.is("aborted", h.abort(1), CLOSED);
        DUE.is("still aborted", h.state(1), ABORTED);
        h.commitIf(2, 4);
        DUE.is("committed by commitIf", h.abort(2), CLOSED);
        DUE.listed("the committed ones are still there", h, 0, 2);
    }

    private static void abortOtherwise() {
        DUE.sentence("Promise 7: otherwise OK");
        HistoryJudge h = Run.of("w00 w10 r2011 p00 p01");
        DUE.is("a writer that was read and installed", h.abort(1), OK);
        DUE.is("now", h.state(1), ABORTED);
        DUE.is("its reader", h.state(2), OPEN);
        DUE.is("the one before", h.state(0), OPEN);
        DUE.is("its reader in turn", h.abort(2), OK);
        DUE.is("the last one", h.abort(3), OK);
        DUE.is("the first one", h.abort(0), OK);
        DUE.listed("all are aborted", h);
    }

    // Promise 8

    private static void commitIf() {
        commitIfNoTransaction();
        commitIfNoKind();
        commitIfClosed();
        commitIfByTheFirst();
        commitIfCommitted();
        commitIfAborted();
        commitIfLeavesAKind();
    }

    private static void commitIfNoTransaction() {
        DUE.sentence("Promise 8: BAD when there is no transaction i");
        for (int size = 1; size <= 4; size++) {
            HistoryJudge h = new HistoryJudge(size, 4);
            for (int kind = 0; kind <= 4; kind++) {
                for (int nowhere : NOWHERE) {
                    DUE.is("commitIf(" + nowhere + ", " + kind + ") of " + size, h.commitIf(nowhere, kind), BAD);
                }
                DUE.is("one too large of " + size, h.commitIf(size, kind), BAD);
            }
            DUE.is("the last of " + size, h.commitIf(size - 1, 4), OK);
        }
    }

    private static void commitIfNoKind() {
        DUE.sentence("Promise 8: BAD when .. kind is not 0 .. 4");
        int[] noKinds = {LEAST, LEAST + 1, -5, -2, -1, 5, 6, 8, 32, 256, 1 << 16, GREATEST};
        HistoryJudge h = new HistoryJudge(4, 4);
        for (int kind : noKinds) {
            DUE.is("kind " + kind, h.commitIf(3, kind), BAD);
            DUE.is("open after kind " + kind, h.state(3), OPEN);
        }
        for (int kind = 0; kind <= 3; kind++) {
            DUE.is("kind " + kind, h.commitIf(kind, kind), OK);
        }
        HistoryJudge g = new HistoryJudge(4, 4);
        DUE.is("kind 4", g.commitIf(0, 4), OK);
    }

    private static void commitIfClosed() {
        DUE.sentence("Promise 8: CLOSED when i is not OPEN");
        for (int kind = 0; kind <= 4; kind++) {
            HistoryJudge h = Run.of("c0 a1");
            DUE.is("committed, kind " + kind, h.commitIf(0, kind), CLOSED);
            DUE.is("still committed", h.state(0), COMMITTED);
            DUE.is("aborted, kind " + kind, h.commitIf(1, kind), CLOSED);
            DUE.is("still aborted", h.state(1), ABORTED);
            DUE.is("open, kind " + kind, h.commitIf(2, kind), OK);
            DUE.is("once more, kind " + kind, h.commitIf(2, kind), CLOSED);
            DUE.is("still committed", h.state(2), COMMITTED);
        }
    }

    private static void commitIfByTheFirst() {
        DUE.sentence("Promise 8: by the first that applies");
        HistoryJudge h = Run.of("c0 a1");
        DUE.is("BAD, CLOSED and OK: kind 5", h.commitIf(0, 5), BAD);
        DUE.is("BAD, CLOSED and OK: kind -1", h.commitIf(0, -1), BAD);
        DUE.is("BAD, CLOSED and REFUSED: kind 5", h.commitIf(1, 5), BAD);
        DUE.is("BAD, CLOSED and REFUSED: kind -1", h.commitIf(1, -1), BAD);
        DUE.is("BAD twice", h.commitIf(4, 5), BAD);
        DUE.is("CLOSED and OK", h.commitIf(0, 4), CLOSED);
        DUE.is("CLOSED and REFUSED", h.commitIf(1, 4), CLOSED);

        HistoryJudge g = Run.of("w10 r0011 c0");
        DUE.is("unclean, but it is CLOSED", g.commitIf(0, 0), CLOSED);
        DUE.is("it is not aborted for that", g.state(0), COMMITTED);
    }

    private static void commitIfCommitted() {
        DUE.sentence("Promise 8: OK when it is now COMMITTED");
        for (int kind = 0; kind <= 4; kind++) {
            HistoryJudge h = Run.of("w00 c0 r1001 w10");
            DUE.is("kind " + kind, h.commitIf(1, kind), OK);
            DUE.is("now, kind " + kind, h.state(1), COMMITTED);
            DUE.is("the one behind, kind " + kind, h.state(2), OPEN);
            DUE.judged("with it, kind " + kind, h, "cosnr");
            DUE.listed("with it, kind " + kind, h, 0, 1);
        }
    }

    private static void commitIfAborted() {
        DUE.sentence("Promise 8: REFUSED when it is now ABORTED");
        for (int kind = 0; kind <= 4; kind++) {
            String disorder = "w00 w10 w01 w11 p00 p01 p11 p10 c0";
            HistoryJudge h = Run.of(kind == 1 ? disorder : "w00 r1001 w00 c0");
            DUE.is("kind " + kind, h.commitIf(1, kind), REFUSED);
            DUE.is("now, kind " + kind, h.state(1), ABORTED);
            DUE.is("the one before, kind " + kind, h.state(0), COMMITTED);
            DUE.is("the one behind, kind " + kind, h.state(2), OPEN);
            DUE.judged("without it, kind " + kind, h, "cosnr");
            DUE.listed("without it, kind " + kind, h, 0);
            DUE.is("no second time, kind " + kind, h.commitIf(1, kind), CLOSED);
        }
    }

    private static void commitIfLeavesAKind() {
        DUE.sentence("Promise 8: COMMITTED if that leaves a history of the kind asked, else ABORTED");
        HistoryJudge h = Run.of("w10 r0011 c0");
        DUE.is("an idle one in an unclean history", h.commitIf(2, 0), REFUSED);
        DUE.is("which is ordered", h.commitIf(3, 1), OK);
        DUE.is("the one that makes it clean", h.commitIf(1, 4), OK);
        DUE.listed("now clean", h, 1, 0, 3);

        HistoryJudge g = Run.of("w00 g01 w11 g10 c0");
        DUE.is("write skew is no serial history", g.commitIf(1, 4), REFUSED);
        DUE.is("an idle one after that", g.commitIf(2, 4), OK);
        HistoryJudge f = Run.of("w00 g01 w11 g10 c0");
        DUE.is("write skew is a snapshot history", f.commitIf(1, 3), OK);
        DUE.is("an idle one is refused after that", f.commitIf(2, 4), REFUSED);
        DUE.is("but not for snapshots", f.commitIf(3, 3), OK);
    }

    // Promise 9

    private static void state() {
        stateNoTransaction();
        stateOfEach();
    }

    private static void stateNoTransaction() {
        DUE.sentence("Promise 9: BAD when there is no transaction i");
        for (int size = 1; size <= 4; size++) {
            HistoryJudge h = new HistoryJudge(size, 4);
            for (int nowhere : NOWHERE) {
                DUE.is("state(" + nowhere + ") of " + size, h.state(nowhere), BAD);
            }
            DUE.is("one too large of " + size, h.state(size), BAD);
            DUE.is("the last of " + size, h.state(size - 1), OPEN);
        }
    }

    private static void stateOfEach() {
        DUE.sentence("Promise 9: OPEN, COMMITTED or ABORTED");
        HistoryJudge h = Run.of("w00 r3001 w00 c2 a1");
        h.commitIf(3, 0);
        h.commitIf(0, 0);
        int[] want = {COMMITTED, ABORTED, COMMITTED, ABORTED};
        for (int i = 0; i < 4; i++) {
            DUE.is("state(" + i + ")", h.state(i), want[i]);
        }
        HistoryJudge g = Run.of("w00 w00 g00 w10 p00");
        DUE.is("steps leave it open", g.state(0), OPEN);
        DUE.is("and the next", g.state(1), OPEN);
    }
}
