/** The terms and promises 10 to 15: each sentence that names a boundary case has a test of its own here, under its words. */
public final class JudgementEdgesTest {
    private static final int LEAST = Integer.MIN_VALUE;
    private static final int GREATEST = Integer.MAX_VALUE;
    /** Rankings of two keys that go against each other. */
    private static final String DISORDER = "w00 w10 w01 w11 p00 p01 p11 p10 c0 c1";
    private static final String WRITE_SKEW = "w00 w11 g01 g10 c0 c1";

    private static final Due DUE = new Due();

    public static void main(String[] args) {
        terms();
        rankings();
        clean();
        lists();
        ordered();
        sourced();
        snapshot();
        serial();
        serialAt();
        DUE.end();
    }

    /** What lies idle beside a history changes no judgement of it: the greatest size and the least that it needs. */
    private static void judged(String steps, String want) {
        DUE.judged(steps, Run.of(steps), want);
        DUE.judged(steps + ", least size", Run.tight(steps), want);
    }

    private static void listed(String steps, int... want) {
        DUE.listed(steps, Run.of(steps), want);
        DUE.listed(steps + ", least size", Run.tight(steps), want);
    }

    // Terms: versions and reads

    private static void terms() {
        finalVersion();
        ground();
        anyNumberOfReads();
        sameReadTwice();
        manyCalls();
    }

    private static void finalVersion() {
        DUE.sentence("Terms: The FINAL version of a transaction for a key is the last one it made");
        judged("w00 r1001 c0 c1", "cosnr");
        judged("w00 w00 r1002 c0 c1", "cosnr");
        judged("w00 w00 r1001 c0 c1", "o");
        judged("w00 w01 w01 r1001 r1102 c0 c1", "cosnr");
        judged("w00 w01 w01 r1001 r1101 c0 c1", "o");
        judged("w00 w00 w20 r1002 r3021 c0 c1 c2 c3", "cosnr");
    }

    private static void ground() {
        DUE.sentence("Terms: Every key also has a version that was there before everything else, the ground");
        listed("g00 g01 g02 g03 c0", 0);
        listed("w00 g10 g20 g30 c0 c1 c2 c3", 1, 2, 3, 0);
        listed("w33 g03 g13 g23 c3 c2 c1 c0", 0, 1, 2, 3);
    }

    private static void anyNumberOfReads() {
        DUE.sentence("Terms: A transaction can have any number of reads of a key");
        judged("w00 w10 w20 g30 r3001 r3011 r3021 c0 c1 c2 c3", "cos");
        HistoryJudge every = new HistoryJudge(4, 4);
        for (int cell = 0; cell < 16; cell++) {
            Run.more(every, "w" + cell / 4 + cell % 4 + " w" + cell / 4 + cell % 4 + " g" + cell / 4 + cell % 4);
        }
        readAll(every, 1);
        readAll(every, 2);
        Run.more(every, "c0 c1 c2 c3");
        DUE.judged("every read that there can be", every, "o");
        HistoryJudge last = new HistoryJudge(4, 4);
        for (int cell = 0; cell < 16; cell++) {
            Run.more(last, "w" + cell / 4 + cell % 4);
        }
        readAll(last, 1);
        Run.more(last, "c0 c1 c2 c3");
        DUE.judged("everybody read everybody's final versions", last, "co");
    }

    private static void readAll(HistoryJudge h, int v) {
        for (int place = 0; place < 64; place++) {
            int i = place / 16;
            int j = place % 4;
            if (i != j) {
                Run.more(h, "r" + i + place / 4 % 4 + j + v);
            }
        }
    }

    private static void sameReadTwice() {
        DUE.sentence("Terms: saying the same read twice changes nothing");
        listed("w10 r0011 r0011 g01 g01 w01 c0 c1", 1, 0);
        HistoryJudge h = Run.of("w30 w30 w31");
        for (int again = 0; again < 200; again++) {
            DUE.is("a version again", h.read(0, 0, 3, 2), 0);
            DUE.is("the ground again", h.readGround(1, 1), 0);
        }
        Run.more(h, "c0 c1 c3");
        DUE.judged("said 200 times", h, "cosnr");
        DUE.listed("said 200 times", h, 1, 3, 0);
    }

    private static void manyCalls() {
        DUE.sentence("What it is: An object is used for at most 512 calls after it has been made");
        HistoryJudge h = new HistoryJudge(2, 1);
        DUE.is("call 1", h.write(0, 0), 1);
        DUE.is("call 2", h.write(0, 0), 2);
        for (int call = 3; call <= 503; call++) {
            DUE.is("call " + call, h.write(0, 0), -3);
        }
        DUE.is("call 504", h.read(1, 0, 0, 2), 0);
        DUE.is("call 505", h.install(0, 0), 0);
        DUE.is("call 506", h.commit(1), 0);
        DUE.is("call 507", h.clean(), false);
        DUE.is("call 508", h.commitIf(0, 4), 0);
        DUE.is("call 509", h.snapshot(), true);
        DUE.is("call 510", h.serialAt(0), 0);
        DUE.is("call 511", h.serialAt(1), 1);
        DUE.is("call 512", h.state(1), 1);
    }

    // Terms: the ranking

    private static void rankings() {
        rankingWithoutTheUncommitted();
        rankingOfTheRest();
        rankingOfWriters();
        rankingWhenEmpty();
    }

    private static void rankingWithoutTheUncommitted() {
        DUE.sentence("Terms: the list of a key is taken without the transactions that are not committed");
        listed("w00 w10 w20 p02 p01 p00 c0 c2", 2, 0);
        listed("w00 w10 w20 p02 p01 p00 c0 c2 a1", 2, 0);
        listed("w00 w10 w20 p02 p01 p00 c0 c2 c1", 2, 1, 0);
        judged("w00 w10 w01 w11 p00 p01 p11 p10 c0", "cosnr");
        judged("w00 w10 w01 w11 p00 p01 p11 p10 c0 a1", "cosnr");
        judged(DISORDER, "c");
        listed("w00 w10 w20 w30 p03 p02 a3 c2 c0 c1", 2, 0, 1);
    }

    private static void rankingOfTheRest() {
        DUE.sentence("Terms: the committed transactions that wrote the key but are not in the list follow at its end, in the order of their numbers");
        listed("w30 w20 w10 w00 c3 c2 c1 c0", 0, 1, 2, 3);
        listed("w00 w10 w20 w30 p00 c0 c1 c2 c3", 0, 1, 2, 3);
        listed("w00 w10 w20 w30 p01 c0 c1 c2 c3", 1, 0, 2, 3);
        listed("w00 w10 w20 w30 p02 c0 c1 c2 c3", 2, 0, 1, 3);
        listed("w00 w10 w20 w30 p03 c0 c1 c2 c3", 3, 0, 1, 2);
        listed("w00 w10 w20 w30 p03 p01 c0 c1 c2 c3", 3, 1, 0, 2);
        listed("w00 w10 w20 w30 p03 p01 p02 c0 c1 c2 c3", 3, 1, 2, 0);
        listed("w00 w10 w20 w30 p03 p01 p02 p00 c0 c1 c2 c3", 3, 1, 2, 0);
        HistoryJudge h = Run.of("w00 w10 c0 c1");
        DUE.listed("not in the list yet", h, 0, 1);
        Run.more(h, "p01");
        DUE.listed("put in it after the end", h, 1, 0);
        judged("w00 w10 w01 w11 p11 c0 c1", "c");
    }

    private static void rankingOfWriters() {
        DUE.sentence("Terms: that wrote the key");
        listed("g00 g10 w20 c0 c1 c2", 0, 1, 2);
        listed("w20 w30 p03 p02 r0031 c0 c1 c2 c3", 1, 3, 0, 2);
        listed("w01 w10 w11 p11 c0 c1", 1, 0);
        listed("w02 w10 w11 p11 c0 c1", 0, 1);
    }

    private static void rankingWhenEmpty() {
        DUE.sentence("Terms: a version order that is empty, of a key that nobody wrote or nobody committed");
        judged("c0 c1 c2 c3", "cosnr");
        judged("w00 w10 p01 p00 c2 c3", "cosnr");
        listed("w00 w10 p01 p00 a0 a1 c3 c2", 2, 3);
    }

    // Promise 10 and the term CLEAN

    private static void clean() {
        cleanByACommittedReader();
        cleanSourceCommitted();
        cleanFinalVersion();
        cleanAsItIsNow();
        cleanOfTheGround();
        cleanInEveryPlace();
    }

    private static void cleanByACommittedReader() {
        DUE.sentence("Terms, CLEAN: for every read by a committed transaction");
        HistoryJudge h = Run.of("w00 r1001 r2001 r3001 w00 a0");
        DUE.is("no reader is committed", h.clean(), true);
        Run.more(h, "a1");
        DUE.is("a reader is aborted", h.clean(), true);
        Run.more(h, "c2");
        DUE.is("a reader is committed", h.clean(), false);
        DUE.is("no reader at all", new HistoryJudge(1, 1).clean(), true);
    }

    private static void cleanSourceCommitted() {
        DUE.sentence("Terms, CLEAN: j is committed");
        judged("w00 r1001 c1", "o");
        judged("w00 r1001 a0 c1", "o");
        judged("w00 r1001 c1 a0", "o");
        judged("w00 r1001 c1 c0", "cosnr");
        judged("w00 w20 r1001 r1021 c1 c0", "o");
        judged("w00 w20 r1001 r1021 c1 c2", "o");
    }

    private static void cleanFinalVersion() {
        DUE.sentence("Terms, CLEAN: the version is the final version of j for the key");
        judged("w00 w00 r1001 c0 c1", "o");
        judged("w00 w00 r1002 c0 c1", "cosnr");
        judged("w00 w00 r1001 r1002 c0 c1", "o");
        judged("w03 w03 r1301 c0 c1", "o");
        judged("w00 w00 w01 r1002 r1101 c0 c1", "cosnr");
        judged("w20 w20 w00 r1001 r1022 p00 p02 c0 c1 c2", "cos");
    }

    private static void cleanAsItIsNow() {
        DUE.sentence("Terms, CLEAN: (as it is now)");
        HistoryJudge h = Run.of("w00 r1001 c1");
        DUE.is("the source is open", h.clean(), false);
        Run.more(h, "c0");
        DUE.is("the source is committed now", h.clean(), true);

        HistoryJudge g = Run.of("w00 r1001 w00 c1 c0");
        DUE.is("final when it was read, but not now", g.clean(), false);
        HistoryJudge f = Run.of("w00 r1001 c1 w00 c0");
        DUE.is("final when the reader was committed, but not now", f.clean(), false);
        DUE.judged("final when the reader was committed, but not now", f, "o");
        HistoryJudge e = Run.of("w00 r1001 c1 w01 w01 w20 w20 c0");
        DUE.is("final now: other keys and writers do not count", e.clean(), true);
    }

    private static void cleanOfTheGround() {
        DUE.sentence("Terms, CLEAN: of a version of a transaction j (a read of the ground is none)");
        DUE.is("the ground behind an open writer", Run.of("w00 g10 c1").clean(), true);
        DUE.is("the ground behind an aborted writer", Run.of("w00 g10 a0 c1").clean(), true);
        DUE.is("the ground and a committed writer", Run.of("w00 w00 c0 g10 c1").clean(), true);
        DUE.is("its own key", Run.of("w00 w00 g00 c0").clean(), true);
    }

    private static void cleanInEveryPlace() {
        DUE.sentence("Promise 10: Whether the history is CLEAN");
        for (int place = 0; place < 64; place++) {
            int i = place / 16;
            int x = place / 4 % 4;
            int j = place % 4;
            if (i != j) {
                String write = " w" + j + x;
                String read = " r" + i + x + j;
                DUE.is("final" + read, Run.of(write + read + "1 c" + i + " c" + j).clean(), true);
                DUE.is("open" + read, Run.of(write + read + "1 c" + i).clean(), false);
                DUE.is("old" + read, Run.of(write + write + read + "1 c" + i + " c" + j).clean(), false);
                DUE.is("second" + read, Run.of(write + write + read + "2 c" + i + " c" + j).clean(), true);
                DUE.is("second, aborted" + read, Run.of(write + write + read + "2 c" + i + " a" + j).clean(), false);
            }
        }
    }

    // Terms: the lists

    private static void lists() {
        onlyTheCommittedMatter();
        emptyList();
        keepsRankings();
        keepsSources();
        keepsReads();
    }

    private static void onlyTheCommittedMatter() {
        DUE.sentence("Terms: only the committed transactions, their reads and the rankings matter");
        HistoryJudge h = Run.of("w00 g20 r2001 c0");
        DUE.judged("an open one with reads that do not fit", h, "cosnr");
        DUE.listed("an open one with reads that do not fit", h, 0);
        Run.more(h, "c2");
        DUE.judged("committed", h, "cos");
        judged("w00 g20 r2001 c0 a2", "cosnr");
        judged("w00 w11 r0111 r1001 a0 a1 c2", "cosnr");
        listed("w00 w10 g20 a0 c2", 2);
        listed("w00 w10 r2011 p01 p00 a0 c1 c2", 1, 2);
        judged("w00 w10 w11 g01 g00 a1 c0", "cosnr");
        judged("w00 g01 w11 g10 c0", "cosnr");
        judged("w00 g01 w11 g10 c0 a1", "cosnr");
        judged(WRITE_SKEW, "cosn");
    }

    private static void emptyList() {
        DUE.sentence("Terms: the empty list when there are none");
        for (int size = 1; size <= 4; size++) {
            HistoryJudge h = new HistoryJudge(size, size);
            DUE.judged("new, of " + size, h, "cosnr");
            DUE.listed("new, of " + size, h);
        }
        String all = "w00 w10 w01 w11 p00 p01 p11 p10 g20 r2001 r2011 r0011 r1001 w00";
        judged(all, "cosnr");
        judged(all + " a0 a1 a2 a3", "cosnr");
        listed(all);
        listed(all + " a0 a1 a2 a3");
        HistoryJudge h = Run.of(all);
        DUE.is("refused, and none is committed", h.commitIf(2, 0), -4);
        DUE.judged("refused, and none is committed", h, "cosnr");
    }

    private static void keepsRankings() {
        DUE.sentence("Terms, RANKINGS: for every key the transactions of its ranking come in the list in the order of the ranking");
        for (int x = 0; x < 4; x++) {
            for (int y = 0; y < 4; y++) {
                String writes = "w0" + x + " w1" + x;
                String more = x == y ? "" : " w0" + y + " w1" + y;
                String puts = x == y ? " p" + x + "1 p" + x + "0" : " p" + x + "1 p" + x + "0 p" + y + "0 p" + y + "1";
                judged(writes + more + puts + " c0 c1", x == y ? "cosnr" : "c");
            }
        }
        judged("w00 w10 w11 w21 w22 w32 w33 w03 p00 p01 p11 p12 p22 p23 p33 p30 c0 c1 c2 c3", "c");
        listed("w00 w10 w11 w21 w22 w32 p01 p00 p12 p11 p23 p22 c0 c1 c2 c3", 3, 2, 1, 0);
    }

    private static void keepsSources() {
        DUE.sentence("Terms, SOURCES: every committed transaction comes after every transaction one of whose versions it read");
        listed("w33 w22 w11 r0111 r1221 r2331 c0 c1 c2 c3", 3, 2, 1, 0);
        judged("w00 w11 w22 w33 r0111 r1221 r2331 r3001 c0 c1 c2 c3", "co");
        judged("w00 w11 r0111 r1001 c0 c1", "co");
        judged("w00 w00 w11 w11 r0112 r1002 c0 c1", "co");
        judged("w02 w13 r0311 r1201 c0 c1", "co");
        judged("w00 w10 w11 r0111 c0 c1", "co");
        judged("w00 w10 w11 r0111 p01 c0 c1", "cosnr");
        judged("w10 w20 w30 r0011 r0021 r0031 c0 c1 c2 c3", "cos");
    }

    private static void keepsReads() {
        readsTheLastOne();
        readsTheGround();
        readsBesideItsOwnWrites();
    }

    private static void readsTheLastOne() {
        DUE.sentence("Terms, READS: of the transactions before i in the list that wrote x, the last one is the one whose version was read");
        listed("w00 w10 r2001 c0 c1 c2", 0, 2, 1);
        listed("w00 w10 r2011 c0 c1 c2", 0, 1, 2);
        listed("w00 w10 r2001 p01 p00 c0 c1 c2", 1, 0, 2);
        listed("w00 w10 r2011 p01 p00 c0 c1 c2", 1, 2, 0);
        listed("w00 w10 w20 r3001 c0 c1 c2 c3", 0, 3, 1, 2);
        listed("w00 w10 w20 r3011 c0 c1 c2 c3", 0, 1, 3, 2);
        listed("w00 w10 w20 r3021 c0 c1 c2 c3", 0, 1, 2, 3);
        judged("w00 w10 w11 r2001 r2111 c0 c1 c2", "cos");
        judged("w00 w10 w11 r2011 r2111 c0 c1 c2", "cosnr");
        judged("w00 w10 r2001 r2011 c0 c1 c2", "cos");
    }

    private static void readsTheGround() {
        DUE.sentence("Terms, READS: or there is none and the ground was read");
        listed("w00 g10 c0 c1", 1, 0);
        listed("w00 w10 g20 g30 c0 c1 c2 c3", 2, 3, 0, 1);
        listed("w01 g10 c0 c1", 0, 1);
        judged("w00 w01 g10 r1101 c0 c1", "cos");
        judged("w00 g10 r1001 c0 c1", "cos");
        judged("w00 w10 w11 g10 r0111 p01 c0 c1", "cosnr");
    }

    private static void readsBesideItsOwnWrites() {
        DUE.sentence("Terms, READS: of the transactions before i (so i itself is not among them)");
        judged("w00 w00 g00 c0", "cosnr");
        listed("w00 g00 w10 r1001 w20 r2011 c0 c1 c2", 0, 1, 2);
        judged("w00 w10 g00 g10 c0 c1", "cos");
    }

    // Promise 11

    private static void ordered() {
        DUE.sentence("Promise 11: (the history need not be clean)");
        judged("w00 r1001 c1", "o");
        judged("w00 r1001 a0 c1", "o");
        judged("w00 r1001 w00 c0 c1", "o");
        judged("w00 w10 w10 r2011 p01 p00 c0 c1 c2", "o");
        judged("w20 r3021 w00 w10 w01 w11 p00 p01 p11 p10 c3 c0 c1", "");

        DUE.sentence("Promise 11: Whether some list of all committed transactions keeps the RANKINGS");
        DUE.is("none", Run.of("w00 w10").ordered(), true);
        DUE.is("one", Run.of("w00 w00 w01 p00 p10 c0").ordered(), true);
        DUE.is("two keys against each other", Run.of(DISORDER).ordered(), false);
        DUE.is("two keys alike", Run.of("w00 w10 w01 w11 p01 p00 p11 p10 c0 c1").ordered(), true);
        DUE.is("a ring of three", Run.of("w00 w10 w11 w21 w22 w02 p00 p01 p11 p12 p22 p20 c0 c1 c2").ordered(), false);
        DUE.is("all but one of a ring", Run.of("w00 w10 w11 w21 w22 w02 p00 p01 p11 p12 p22 p20 c0 c1").ordered(), true);
    }

    // Promise 12

    private static void sourced() {
        DUE.sentence("Promise 12: the history is clean");
        DUE.is("an open source", Run.of("w00 r1001 c1").sourced(), false);
        DUE.is("an aborted source", Run.of("w00 r1001 a0 c1").sourced(), false);
        DUE.is("an earlier version", Run.of("w00 w00 r1001 c0 c1").sourced(), false);
        DUE.is("the final version", Run.of("w00 w00 r1002 c0 c1").sourced(), true);

        DUE.sentence("Promise 12: some list of all committed transactions keeps the RANKINGS and the SOURCES");
        DUE.is("none", Run.of("w00 w10 r0011 r1001").sourced(), true);
        DUE.is("one", Run.of("w00 g00 c0").sourced(), true);
        DUE.is("no list for the rankings", Run.of(DISORDER).sourced(), false);
        DUE.is("no list for the sources", Run.of("w00 w11 r0111 r1001 c0 c1").sourced(), false);
        DUE.is("a list for either, but none for both", Run.of("w00 w10 w11 r0111 c0 c1").sourced(), false);
        DUE.is("a list for both", Run.of("w00 w10 w11 r0111 p01 c0 c1").sourced(), true);
        DUE.is("reads of the ground have no source", Run.of("w00 w10 g00 g10 c0 c1").sourced(), true);
        DUE.is("nor do all reads have to be kept", Run.of("w00 w01 g10 r1101 c0 c1").sourced(), true);
    }

    // Promise 13

    private static void snapshot() {
        snapshotClean();
        snapshotPoints();
        snapshotRankings();
        snapshotRivals();
        snapshotReads();
        snapshotGround();
    }

    private static void snapshotClean() {
        DUE.sentence("Promise 13: the history is clean");
        DUE.is("an open source", Run.of("w00 r1001 c1").snapshot(), false);
        DUE.is("an aborted source", Run.of("w00 r1001 a0 c1").snapshot(), false);
        DUE.is("an earlier version", Run.of("w00 w00 r1001 c0 c1").snapshot(), false);
        DUE.is("the final version", Run.of("w00 w00 r1002 c0 c1").snapshot(), true);
    }

    private static void snapshotPoints() {
        DUE.sentence("Promise 13: a line of 2 n points, a start and an end for each, the start before the end");
        DUE.is("n is 0", Run.of("w00 w10 g00 g10 r0011").snapshot(), true);
        DUE.is("n is 1", Run.of("w00 w00 g00 g01 c0").snapshot(), true);
        judged(WRITE_SKEW, "cosn");
        judged("w00 g01 w11 g12 w22 g20 c0 c1 c2", "cosn");
        judged("w00 g01 w11 g12 w22 g23 w33 g30 c0 c1 c2 c3", "cosn");
        judged("w00 w11 r0111 r1001 c0 c1", "co");
        judged("w00 w10 w11 r0111 c0 c1", "co");
        judged("w00 w10 w22 r2001 r3011 g32 c0 c1 c2 c3", "cosn");
    }

    private static void snapshotRankings() {
        DUE.sentence("Promise 13: for every key, the ends of the transactions of its ranking come in the order of the ranking");
        judged(DISORDER, "c");
        judged("w00 w10 g10 r0011 c0 c1", "co");
        judged("w00 w10 g10 r0011 p01 c0 c1", "cosnr");
        judged("w00 w10 w20 r3001 w31 r2131 c0 c1 c2 c3", "cosnr");
        judged("w00 w10 w20 r3021 w31 r1131 c0 c1 c2 c3", "co");
        judged("w00 w10 w20 r3021 w31 r1131 p00 p02 p01 c0 c1 c2 c3", "cosnr");
    }

    private static void snapshotRivals() {
        DUE.sentence("Promise 13: for two different transactions that wrote a common key, one has its end before the start of the other");
        judged("w00 w10 g00 g10 c0 c1", "cos");
        judged("w00 w11 g00 g10 c0 c1", "cosnr");
        judged("w00 w11 g01 g10 w02 w12 c0 c1", "cos");
        judged("w00 w11 g01 g10 w02 w13 c0 c1", "cosn");
        judged("w00 w11 g01 g10 w03 w13 p31 c0 c1", "cos");
        judged("w00 w00 g00 g01 c0", "cosnr");
        judged("w00 w10 w11 w21 g20 c0 c1 c2", "cos");
        judged("w00 w10 w11 w21 g20 p12 c0 c1 c2", "cosnr");
        for (int place = 0; place < 64; place++) {
            int i = place / 16;
            int x = place / 4 % 4;
            int j = place % 4;
            if (i != j) {
                String writes = "w" + i + x + " w" + j + x;
                judged(writes + " g" + i + x + " g" + j + x + " c" + i + " c" + j, "cos");
                judged(writes + " g" + i + x + " r" + j + x + i + "1 p" + x + i + " c" + i + " c" + j, "cosnr");
            }
        }
    }

    private static void snapshotReads() {
        DUE.sentence("Promise 13: of the transactions that wrote x (i itself not among them) and have their end before the start of i, "
            + "the one with the last end is the one whose version was read");
        judged("w00 w10 r1001 c0 c1", "cosnr");
        judged("w00 w10 w20 r1001 r2011 c0 c1 c2", "cosnr");
        judged("w00 w10 w20 r1001 r2001 c0 c1 c2", "cos");
        judged("w00 w10 r2001 c0 c1 c2", "cosnr");
        judged("w00 w10 w11 r2001 r2111 c0 c1 c2", "cos");
        judged("w00 w10 r2001 r2011 c0 c1 c2", "cos");
        judged("w00 w11 r2001 g21 r3111 g30 c0 c1 c2 c3", "cos");
        judged("w00 w11 r2001 g21 r3111 r3001 c0 c1 c2 c3", "cosnr");
    }

    private static void snapshotGround() {
        DUE.sentence("Promise 13: or there is none and the ground was read");
        judged("w00 g00 c0", "cosnr");
        judged("w00 g10 c0 c1", "cosnr");
        judged("w00 w01 g10 r1101 c0 c1", "cos");
        judged("w00 g10 r1001 c0 c1", "cos");
        judged("w00 w10 g10 c0 c1", "cos");
        judged("w00 w10 g10 p01 c0 c1", "cosnr");
        judged("w00 r2001 w22 r1221 g10 c0 c1 c2", "cos");
    }

    // Promise 14

    private static void serial() {
        DUE.sentence("Promise 14: the history is clean");
        DUE.is("an open source", Run.of("w00 r1001 c1").serial(), false);
        DUE.is("an aborted source", Run.of("w00 r1001 a0 c1").serial(), false);
        DUE.is("an earlier version, though a list keeps the reads", Run.of("w00 w00 r1001 c0 c1").serial(), false);
        DUE.is("the final version", Run.of("w00 w00 r1002 c0 c1").serial(), true);

        DUE.sentence("Promise 14: some list of all committed transactions keeps the RANKINGS and the READS");
        DUE.is("none", Run.of("w00 w11 g01 g10").serial(), true);
        DUE.is("one", Run.of("w00 w11 g01 g10 c0").serial(), true);
        DUE.is("no list for the rankings", Run.of(DISORDER).serial(), false);
        DUE.is("no list for the reads", Run.of(WRITE_SKEW).serial(), false);
        DUE.is("a list for either, but none for both", Run.of("w00 w10 g10 c0 c1").serial(), false);
        DUE.is("a list for both", Run.of("w00 w10 g10 p01 c0 c1").serial(), true);
        DUE.is("the last list of two", Run.of("w10 r0011 c0 c1").serial(), true);
        DUE.is("the last list of four", Run.of("w33 w22 w11 r0111 r1221 r2331 c0 c1 c2 c3").serial(), true);
    }

    // Promise 15

    private static void serialAt() {
        serialAtDictionary();
        serialAtWhenNotSerial();
        serialAtOutside();
    }

    /** The least list in which a comes before b: as the numbers go, but b right behind a if it would come too early. */
    private static void serialAtDictionary() {
        DUE.sentence("Promise 15: of the lists of all committed transactions that keep the RANKINGS and the READS, the least in the dictionary order");
        listed("c3 c2 c1 c0", 0, 1, 2, 3);
        for (int pair = 0; pair < 16; pair++) {
            int a = pair / 4;
            int b = pair % 4;
            if (a != b) {
                listed("w" + a + "0 r" + b + "0" + a + "1 c0 c1 c2 c3", leastWith(a, b));
                listed("w" + b + "0 g" + a + "0 c0 c1 c2 c3", leastWith(a, b));
                listed("w" + a + "0 w" + b + "0 p0" + a + " p0" + b + " c0 c1 c2 c3", leastWith(a, b));
            }
        }
        listed("w11 w22 w33 r2331 r1331 g03 c0 c1 c2 c3", 0, 3, 1, 2);
        listed("w30 r0031 w31 r1131 g21 c0 c1 c2 c3", 2, 3, 0, 1);
    }

    private static int[] leastWith(int a, int b) {
        int[] list = new int[4];
        int size = 0;
        for (int i = 0; i < 4; i++) {
            if (i != b || a < b) {
                list[size++] = i;
            }
            if (i == a && a > b) {
                list[size++] = b;
            }
        }
        return list;
    }

    private static void serialAtWhenNotSerial() {
        DUE.sentence("Promise 15: -1 when serial() is false");
        String[] histories = {WRITE_SKEW, DISORDER, "w00 r1001 c1 c2", "w00 w00 r1001 c0 c1", "w00 w10 g10 c0 c1", WRITE_SKEW + " c2 c3"};
        for (String history : histories) {
            HistoryJudge h = Run.of(history);
            DUE.is("serial() after " + history, h.serial(), false);
            DUE.listed(history, h);
            DUE.is("the first after " + history, h.serialAt(0), -1);
            DUE.is("the second after " + history, h.serialAt(1), -1);
            DUE.is("the last after " + history, h.serialAt(3), -1);
        }
    }

    private static void serialAtOutside() {
        DUE.sentence("Promise 15: -1 when .. k is not from 0 to the number of committed transactions - 1");
        int[] outside = {LEAST, LEAST + 1, -32, -16, -4, -1, 4, 5, 8, 15, 16, 31, 32, 64, GREATEST - 1, GREATEST};
        for (int chosen = 0; chosen < 16; chosen++) {
            HistoryJudge h = new HistoryJudge(4, 1);
            int size = 0;
            for (int i = 0; i < 4; i++) {
                boolean isChosen = (chosen >> i & 1) == 1;
                Run.more(h, isChosen ? "c" + i : chosen % 3 == 0 ? "a" + i : "");
                if (isChosen) {
                    DUE.is("place " + size + " of " + chosen, h.serialAt(size), i);
                    size++;
                }
            }
            for (int k = size; k < 4; k++) {
                DUE.is("place " + k + " of " + chosen, h.serialAt(k), -1);
            }
            for (int k : outside) {
                DUE.is("place " + k + " of " + chosen, h.serialAt(k), -1);
            }
        }
    }
}
