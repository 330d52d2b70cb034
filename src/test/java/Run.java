/** A history written down in one line, so that a test can show it beside the answer that is due. */
final class Run {
    private Run() {
    }

    /** A new object of the size, after the steps. */
    static HistoryJudge of(int transactions, int keys, String steps) {
        HistoryJudge h = new HistoryJudge(transactions, keys);
        more(h, steps);
        return h;
    }

    /** A new object of the greatest size, after the steps. */
    static HistoryJudge of(String steps) {
        return of(4, 4, steps);
    }

    /** A new object of the least size that the steps need, after the steps. */
    static HistoryJudge tight(String steps) {
        int transactions = 1;
        int keys = 1;
        for (String step : steps.trim().split(" +")) {
            for (int place = 1; place < step.length(); place++) {
                int size = step.charAt(place) - '0' + 1;
                boolean isKey = step.charAt(0) == 'p' ? place == 1 : place == 2;
                boolean isVersion = place == 4;
                keys = isKey ? Math.max(keys, size) : keys;
                transactions = isKey || isVersion ? transactions : Math.max(transactions, size);
            }
        }
        return of(transactions, keys, steps);
    }

    /**
     * Steps with blanks between them, each a letter and the numbers of the call in the call's own order: w(rite) i x, r(ead) i x j v,
     * g(round read) i x, p(ut in the version order) x i, c(ommit) i, a(bort) i. A step of a history must be taken: one that is
     * answered with less than 0 is a fault of the test.
     */
    static void more(HistoryJudge h, String steps) {
        for (String step : steps.trim().split(" +")) {
            if (!step.isEmpty() && take(h, step) < 0) {
                throw new IllegalArgumentException("not taken: " + step + " of " + steps);
            }
        }
    }

    private static int take(HistoryJudge h, String step) {
        int[] n = step.substring(1).chars().map(digit -> digit - '0').toArray();
        return switch (step.charAt(0)) {
            case 'w' -> h.write(n[0], n[1]);
            case 'r' -> h.read(n[0], n[1], n[2], n[3]);
            case 'g' -> h.readGround(n[0], n[1]);
            case 'p' -> h.install(n[0], n[1]);
            case 'c' -> h.commit(n[0]);
            case 'a' -> h.abort(n[0]);
            default -> throw new IllegalArgumentException("no step: " + step);
        };
    }
}
