import java.util.ArrayList;
import java.util.List;
import java.util.function.ToIntFunction;

/**
 * A call that is refused, and a call that only asks, changes nothing: an object with the call and one without it answer alike from then on.
 * What an object holds is hidden, so it is told from many ways of going on, the same each time.
 */
public final class UnchangedTest {
    private record Call(String name, ToIntFunction<HistoryJudge> answer) { }

    private static final String[] HISTORIES = {
        "",
        "w00 w00 w10 w11 p01 r2011 g21 w22 w33 w33 p33 r3111",
        "w00 w10 w10 p01 r1001 c0 w21 r2001 g31 a2 w32",
        "w03 w13 w23 w33 p32 p30 r0331 r1331 g23 c3 c1 a2",
        "w00 g01 w11 g10 c0 c1 w22 r2001 r3111 w33",
        "w00 w10 w01 w11 p00 p01 p11 p10 c0 c1 r2001 g31",
        "w00 r1001 w00 c1 r2002 g32 w32 w32 a0",
        "c0 a1 c2 a3",
    };
    private static final int WAYS = 16;
    private static final int STEPS = 24;
    /** A count that a refused call moves is seen only when it has moved far. */
    private static final int TIMES = 12;

    private static final Due DUE = new Due();
    private static long seed = 5L;

    public static void main(String[] args) {
        DUE.sentence("Promises 2 to 8: a call that answers BAD, CLOSED or MANY, or REFUSED by install(), changes nothing");
        for (String history : HISTORIES) {
            int refused = 0;
            for (Call call : steps()) {
                if (call.answer.applyAsInt(Run.of(history)) < 0) {
                    refused++;
                    leavesAsItWas(history, call);
                }
            }
            DUE.is("many calls are refused after " + history, refused > 300, true);
        }
        DUE.sentence("Promises 9 to 15: a call that asks changes nothing");
        for (String history : HISTORIES) {
            for (Call call : questions()) {
                leavesAsItWas(history, call);
            }
        }
        DUE.sentence("Promise 8: Makes transaction i COMMITTED .. else ABORTED, and does nothing more");
        for (String history : HISTORIES) {
            for (int place = 0; place < 20; place++) {
                commitsOrAborts(history, place / 5, place % 5);
            }
        }
        DUE.end();
    }

    /** Of commitIf() only the calls that are refused out of hand: its REFUSED says that it has aborted. */
    private static List<Call> steps() {
        List<Call> calls = new ArrayList<>();
        for (int a = -1; a <= 4; a++) {
            int i = a;
            calls.add(new Call("commit(" + i + ")", h -> h.commit(i)));
            calls.add(new Call("abort(" + i + ")", h -> h.abort(i)));
            for (int b = -1; b <= 5; b++) {
                int x = b;
                calls.add(new Call("write(" + i + ", " + x + ")", h -> h.write(i, x)));
                calls.add(new Call("readGround(" + i + ", " + x + ")", h -> h.readGround(i, x)));
                calls.add(new Call("install(" + x + ", " + i + ")", h -> h.install(x, i)));
                calls.add(new Call("commitIf(" + i + ", " + x + ")", h -> h.state(i) != 0 || x < 0 || x > 4 ? h.commitIf(i, x) : 0));
                addReads(calls, i, x);
            }
        }
        return calls;
    }

    private static void addReads(List<Call> calls, int i, int x) {
        for (int a = -1; a <= 4; a++) {
            for (int b = 0; b <= 3; b++) {
                int j = a;
                int v = b;
                calls.add(new Call("read(" + i + ", " + x + ", " + j + ", " + v + ")", h -> h.read(i, x, j, v)));
            }
        }
    }

    private static List<Call> questions() {
        List<Call> calls = new ArrayList<>();
        calls.add(new Call("clean()", h -> h.clean() ? 1 : 0));
        calls.add(new Call("ordered()", h -> h.ordered() ? 1 : 0));
        calls.add(new Call("sourced()", h -> h.sourced() ? 1 : 0));
        calls.add(new Call("snapshot()", h -> h.snapshot() ? 1 : 0));
        calls.add(new Call("serial()", h -> h.serial() ? 1 : 0));
        for (int k = -1; k <= 4; k++) {
            int place = k;
            calls.add(new Call("state(" + place + ")", h -> h.state(place)));
            calls.add(new Call("serialAt(" + place + ")", h -> h.serialAt(place)));
        }
        return calls;
    }

    private static void leavesAsItWas(String history, Call call) {
        for (int way = 0; way < WAYS; way++) {
            HistoryJudge with = Run.of(history);
            HistoryJudge without = Run.of(history);
            for (int again = 0; again < TIMES; again++) {
                call.answer.applyAsInt(with);
            }
            String what = call.name + " after " + history + ", way " + way;
            DUE.is(what, goOn(with, way).equals(goOn(without, way)), true);
        }
    }

    private static void commitsOrAborts(String history, int i, int kind) {
        for (int way = 0; way < WAYS; way++) {
            HistoryJudge asked = Run.of(history);
            HistoryJudge told = Run.of(history);
            int answer = asked.commitIf(i, kind);
            int asTold = answer == 0 ? told.commit(i) : told.abort(i);
            String what = "commitIf(" + i + ", " + kind + ") after " + history + ", way " + way;
            DUE.is(what + ", a step that could be taken", asTold == 0 || answer == -2, true);
            DUE.is(what, goOn(asked, way).equals(goOn(told, way)), true);
        }
    }

    /** Way 0 commits all at once; the others go on with steps drawn from the way's number. */
    private static List<Integer> goOn(HistoryJudge h, int way) {
        List<Integer> answers = new ArrayList<>();
        addJudgements(answers, h);
        seed = way;
        for (int step = 0; step < STEPS && way > 0; step++) {
            int i = below(4);
            int x = below(4);
            switch (below(4)) {
                case 0 -> answers.add(h.write(i, x));
                case 1 -> answers.add(h.install(x, i));
                case 2 -> answers.add(h.read(i, x, below(4), 1 + below(2)));
                default -> answers.add(h.readGround(i, way % 2 == 0 ? 4 : x));
            }
        }
        for (int i = 0; i < 4; i++) {
            int next = (i + way) % 4;
            answers.add(way % 3 == 2 ? h.commitIf(next, below(5)) : h.commit(next));
            addJudgements(answers, h);
        }
        return answers;
    }

    private static int below(int bound) {
        seed = seed * 6364136223846793005L + 1442695040888963407L;
        return (int) ((seed >>> 33) % bound);
    }

    private static void addJudgements(List<Integer> answers, HistoryJudge h) {
        boolean[] judged = {h.clean(), h.ordered(), h.sourced(), h.snapshot(), h.serial()};
        for (boolean holds : judged) {
            answers.add(holds ? 1 : 0);
        }
        for (int k = 0; k < 4; k++) {
            answers.add(h.state(k));
            answers.add(h.serialAt(k));
        }
    }
}
