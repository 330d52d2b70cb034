/** Promises 10 to 15: the judgements, on histories small enough to be judged by hand. */
public final class JudgementsTest {
    private static final Due DUE = new Due();

    public static void main(String[] args) {
        cleanAsksForCommittedSources();
        cleanAsksForFinalVersions();
        cleanLooksAtEveryKey();
        onlyCommittedReadersMatter();
        rankingLeavesOutTheUncommitted();
        rankingEndsWithTheRest();
        orderedNeedNotBeClean();
        orderedOverThreeKeys();
        sourcesInARing();
        sourcesAgainstRankings();
        snapshotOfWriteSkew();
        snapshotOfLostUpdate();
        snapshotOfBlindWriter();
        snapshotReadsOwnKeyBehindARival();
        snapshotLongFork();
        snapshotStartsBeforeAnEnd();
        snapshotOfThree();
        readsOfOneKeyThatDiffer();
        ownWritesDoNotHideAnything();
        firstSerialList();
        firstSerialListUnderReads();
        serialNeedsClean();
        judgingChangesNothing();
        DUE.end();
    }

    private static HistoryJudge history() {
        return new HistoryJudge(4, 4);
    }

    private static void commit(HistoryJudge h, int... transactions) {
        for (int i : transactions) {
            h.commit(i);
        }
    }

    private static void write(HistoryJudge h, int x, int... transactions) {
        for (int i : transactions) {
            h.write(i, x);
        }
    }

    private static void install(HistoryJudge h, int x, int... transactions) {
        for (int i : transactions) {
            h.install(x, i);
        }
    }

    private static void cleanAsksForCommittedSources() {
        HistoryJudge h = history();
        write(h, 0, 0);
        h.read(1, 0, 0, 1);
        DUE.judged("source open, reader open", h, "cosnr");
        h.commit(1);
        DUE.judged("source open", h, "o");
        DUE.listed("source open", h);
        h.commit(0);
        DUE.judged("source committed", h, "cosnr");
        DUE.listed("source committed", h, 0, 1);

        HistoryJudge g = history();
        write(g, 0, 0);
        g.read(1, 0, 0, 1);
        g.abort(0);
        g.commit(1);
        DUE.judged("source aborted", g, "o");
    }

    private static void cleanAsksForFinalVersions() {
        HistoryJudge h = history();
        write(h, 0, 0);
        h.read(1, 0, 0, 1);
        write(h, 0, 0);
        h.read(2, 0, 0, 2);
        commit(h, 0, 2);
        DUE.judged("the final version read", h, "cosnr");
        h.commit(1);
        DUE.judged("an earlier version read", h, "o");

        HistoryJudge g = history();
        write(g, 0, 0, 0);
        g.read(1, 0, 0, 1);
        g.read(1, 0, 0, 2);
        commit(g, 0, 1);
        DUE.judged("both versions read", g, "o");
    }

    private static void cleanLooksAtEveryKey() {
        for (int x = 0; x < 4; x++) {
            HistoryJudge h = history();
            h.write(3, x);
            h.write(3, (x + 1) % 4);
            h.write(3, (x + 1) % 4);
            h.read(2, x, 3, 1);
            h.read(2, (x + 1) % 4, 3, 2);
            commit(h, 2, 3);
            DUE.judged("versions of other keys are no matter", h, "cosnr");
            HistoryJudge g = history();
            g.write(3, x);
            g.read(2, x, 3, 1);
            g.write(3, x);
            commit(g, 2, 3);
            DUE.judged("the final version of this key", g, "o");
        }
    }

    private static void onlyCommittedReadersMatter() {
        HistoryJudge h = history();
        write(h, 0, 0);
        h.read(1, 0, 0, 1);
        h.read(2, 0, 0, 1);
        h.abort(0);
        h.abort(2);
        DUE.judged("readers open and aborted", h, "cosnr");
        h.readGround(3, 0);
        h.commit(3);
        DUE.judged("an aborted writer hides no ground", h, "cosnr");
        DUE.listed("an aborted writer hides no ground", h, 3);
    }

    private static void rankingLeavesOutTheUncommitted() {
        HistoryJudge h = history();
        write(h, 0, 0, 1, 2);
        write(h, 1, 0, 1, 2);
        install(h, 0, 0, 1, 2);
        install(h, 1, 1, 2, 0);
        commit(h, 1, 2);
        DUE.judged("0 is open", h, "cosnr");
        DUE.listed("0 is open", h, 1, 2);
        h.abort(0);
        DUE.judged("0 is aborted", h, "cosnr");

        HistoryJudge g = history();
        write(g, 0, 0, 1, 2);
        write(g, 1, 0, 1, 2);
        install(g, 0, 0, 1, 2);
        install(g, 1, 1, 2, 0);
        commit(g, 0, 1, 2);
        DUE.judged("0 is committed", g, "c");
    }

    private static void rankingEndsWithTheRest() {
        HistoryJudge h = history();
        write(h, 0, 0, 1, 2, 3);
        install(h, 0, 3);
        commit(h, 3, 2, 1, 0);
        DUE.listed("one installed, the rest by number", h, 3, 0, 1, 2);
        install(h, 0, 2);
        DUE.listed("two installed", h, 3, 2, 0, 1);
        install(h, 0, 1);
        DUE.listed("three installed", h, 3, 2, 1, 0);
        install(h, 0, 0);
        DUE.listed("all installed", h, 3, 2, 1, 0);

        HistoryJudge g = history();
        write(g, 0, 0, 1);
        write(g, 1, 0, 1);
        install(g, 1, 1);
        commit(g, 0, 1);
        DUE.judged("by number against installed", g, "c");
    }

    private static void orderedNeedNotBeClean() {
        HistoryJudge h = history();
        write(h, 0, 0, 1);
        h.read(2, 0, 1, 1);
        write(h, 0, 1);
        install(h, 0, 1, 0);
        commit(h, 0, 1, 2);
        DUE.judged("unclean, yet ordered", h, "o");
    }

    private static void orderedOverThreeKeys() {
        HistoryJudge h = history();
        write(h, 0, 0, 1);
        write(h, 1, 1, 2);
        write(h, 2, 2, 0);
        install(h, 0, 0, 1);
        install(h, 1, 1, 2);
        install(h, 2, 2, 0);
        commit(h, 0, 1);
        DUE.judged("two of a ring", h, "cosnr");
        h.commit(2);
        DUE.judged("a ring over three keys", h, "c");
    }

    private static void sourcesInARing() {
        HistoryJudge h = history();
        write(h, 0, 0);
        write(h, 1, 1);
        write(h, 2, 2);
        h.read(0, 1, 1, 1);
        h.read(1, 2, 2, 1);
        commit(h, 0, 1, 2);
        DUE.judged("a chain of sources", h, "cosnr");
        DUE.listed("a chain of sources", h, 2, 1, 0);

        HistoryJudge g = history();
        write(g, 0, 0);
        write(g, 1, 1);
        g.read(0, 1, 1, 1);
        g.read(1, 0, 0, 1);
        commit(g, 0, 1);
        DUE.judged("a ring of sources", g, "co");

        HistoryJudge f = history();
        write(f, 0, 0, 0);
        write(f, 1, 1, 1);
        f.read(0, 1, 1, 2);
        f.read(1, 0, 0, 2);
        commit(f, 0, 1);
        DUE.judged("a ring of sources, by second versions", f, "co");
    }

    private static void sourcesAgainstRankings() {
        HistoryJudge h = history();
        write(h, 0, 0, 1);
        write(h, 1, 1);
        h.read(0, 1, 1, 1);
        commit(h, 0, 1);
        DUE.judged("the source ranks behind", h, "co");
        install(h, 0, 1);
        DUE.judged("the source ranks before", h, "cosnr");
    }

    private static void snapshotOfWriteSkew() {
        HistoryJudge h = history();
        write(h, 0, 0);
        write(h, 1, 1);
        h.readGround(0, 1);
        h.readGround(1, 0);
        commit(h, 0, 1);
        DUE.judged("write skew", h, "cosn");
        DUE.listed("write skew", h);
    }

    private static void snapshotOfLostUpdate() {
        HistoryJudge h = history();
        write(h, 0, 0, 1);
        h.readGround(0, 0);
        h.readGround(1, 0);
        commit(h, 0, 1);
        DUE.judged("lost update", h, "cos");
    }

    private static void snapshotOfBlindWriter() {
        HistoryJudge h = history();
        write(h, 0, 0, 1);
        write(h, 1, 0);
        h.readGround(1, 1);
        commit(h, 0, 1);
        DUE.judged("a rival's other write is seen", h, "cos");
    }

    private static void snapshotReadsOwnKeyBehindARival() {
        HistoryJudge h = history();
        write(h, 0, 0, 1);
        h.readGround(0, 0);
        h.read(1, 0, 0, 1);
        commit(h, 0, 1);
        DUE.judged("an update behind an update", h, "cosnr");
        DUE.listed("an update behind an update", h, 0, 1);
    }

    private static void snapshotLongFork() {
        HistoryJudge h = history();
        write(h, 0, 0);
        write(h, 1, 1);
        h.read(2, 0, 0, 1);
        h.readGround(2, 1);
        h.read(3, 1, 1, 1);
        h.readGround(3, 0);
        commit(h, 0, 1, 2);
        DUE.judged("one reader", h, "cosnr");
        DUE.listed("one reader", h, 0, 2, 1);
        h.commit(3);
        DUE.judged("readers that see two writers in two orders", h, "cos");
    }

    private static void snapshotStartsBeforeAnEnd() {
        HistoryJudge h = history();
        write(h, 0, 0);
        write(h, 2, 2);
        h.read(2, 0, 0, 1);
        h.read(1, 2, 2, 1);
        h.readGround(1, 0);
        commit(h, 0, 1, 2);
        DUE.judged("sees a source, but not the source of that", h, "cos");

        HistoryJudge g = history();
        write(g, 0, 0);
        write(g, 1, 1);
        write(g, 2, 1);
        g.readGround(1, 0);
        g.read(0, 2, 1, 1);
        commit(g, 0, 1);
        DUE.judged("a reader of the ground that ends before", g, "cosnr");
        DUE.listed("a reader of the ground that ends before", g, 1, 0);

        HistoryJudge f = history();
        write(f, 0, 0, 1);
        write(f, 1, 1, 2);
        f.readGround(2, 0);
        commit(f, 0, 1, 2);
        DUE.judged("starts behind a rival that starts behind the writer", f, "cos");
    }

    /** The ring of write skew through three: nobody sees what the next one wrote. */
    private static void snapshotOfThree() {
        HistoryJudge h = history();
        for (int i = 0; i < 3; i++) {
            h.write(i, i);
            h.readGround(i, (i + 1) % 3);
        }
        commit(h, 0, 1);
        DUE.judged("two of three", h, "cosnr");
        DUE.listed("two of three", h, 0, 1);
        h.commit(2);
        DUE.judged("write skew of three", h, "cosn");
        h.commit(3);
        DUE.judged("and one that did nothing", h, "cosn");
    }

    private static void readsOfOneKeyThatDiffer() {
        HistoryJudge h = history();
        write(h, 0, 0, 1);
        h.read(2, 0, 0, 1);
        h.read(2, 0, 1, 1);
        commit(h, 0, 1, 2);
        DUE.judged("versions of two writers read", h, "cos");

        HistoryJudge g = history();
        write(g, 0, 0);
        g.readGround(2, 0);
        g.read(2, 0, 0, 1);
        commit(g, 0, 2);
        DUE.judged("ground and version read", g, "cos");
    }

    private static void ownWritesDoNotHideAnything() {
        HistoryJudge h = history();
        write(h, 0, 0, 0);
        h.readGround(0, 0);
        h.commit(0);
        DUE.judged("own writes and the ground", h, "cosnr");
        write(h, 0, 1);
        h.read(1, 0, 0, 2);
        h.commit(1);
        DUE.judged("own writes and a source", h, "cosnr");
        DUE.listed("own writes and a source", h, 0, 1);
    }

    private static void firstSerialList() {
        HistoryJudge h = history();
        DUE.listed("none committed", h);
        h.commit(3);
        DUE.listed("3 alone", h, 3);
        h.commit(1);
        DUE.listed("1 and 3", h, 1, 3);
        h.abort(0);
        DUE.listed("0 aborted", h, 1, 3);
        h.commit(2);
        DUE.listed("1, 2 and 3", h, 1, 2, 3);

        HistoryJudge g = history();
        commit(g, 3, 2, 1, 0);
        DUE.listed("all four", g, 0, 1, 2, 3);
    }

    private static void firstSerialListUnderReads() {
        HistoryJudge h = history();
        write(h, 0, 3);
        write(h, 1, 0);
        h.read(0, 0, 3, 1);
        h.readGround(2, 1);
        commit(h, 0, 1, 2, 3);
        DUE.listed("3 before 0, 2 before 0", h, 1, 2, 3, 0);

        HistoryJudge g = history();
        write(g, 0, 2, 1);
        g.read(0, 0, 2, 1);
        install(g, 0, 1, 2);
        g.readGround(3, 0);
        commit(g, 0, 1, 2, 3);
        DUE.listed("3 before 1 before 2 before 0", g, 3, 1, 2, 0);

        HistoryJudge f = history();
        write(f, 0, 2, 1);
        f.read(0, 0, 2, 1);
        install(f, 0, 2, 1);
        commit(f, 0, 1, 2, 3);
        DUE.listed("0 between 2 and 1", f, 2, 0, 1, 3);
    }

    private static void serialNeedsClean() {
        HistoryJudge h = history();
        write(h, 0, 0);
        h.read(1, 0, 0, 1);
        write(h, 0, 0);
        commit(h, 0, 1);
        DUE.judged("a list keeps the reads, but unclean", h, "o");
        DUE.listed("a list keeps the reads, but unclean", h);
    }

    private static void judgingChangesNothing() {
        HistoryJudge h = history();
        write(h, 0, 1, 0);
        install(h, 0, 1);
        h.read(0, 0, 1, 1);
        commit(h, 1, 0);
        for (int again = 0; again < 3; again++) {
            DUE.judged("judged again", h, "cosnr");
            DUE.listed("judged again", h, 1, 0);
            DUE.is("judged again: state", h.state(2), 0);
        }
        DUE.is("judged, then refused", h.install(0, 1), -4);
    }
}
