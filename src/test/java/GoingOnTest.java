/** "Terms": where a run goes on and until when, and what brings a waiting run on. */
public final class GoingOnTest {
    private static final int[] WAITS = {Check.CALL, Check.SLEEP, Check.TAKE};

    public static void main(String[] args) {
        jumpsOut();
        jumpsOutOfEveryLength();
        fallsOffTheEnd();
        fallsOffBehindAWait();
        untilItWaitsOrEnds();
        longestWayWithinOneCall(0, ReplayFlow.ENDED);
        longestWayWithinOneCall(1, ReplayFlow.TAKING);
        withinTheCall();
        allRunsInOneCall();
        Check.finish();
    }

    private static void jumpsOut() {
        Check.sentence("if that is not the number of an instruction, it ends with the result 0");
        for (int to : new int[] {-1, -2, 3, 4, 15, 16, 17, 256, Integer.MAX_VALUE, Integer.MIN_VALUE}) {
            for (int op : new int[] {Check.JUMP, Check.JPOS}) {
                ReplayFlow flow = Check.engine(Check.SET, 1, 8, op, 0, to, Check.END, 1, 0);
                Check.due("op " + op + " to " + to, flow.start(0, 2), ReplayFlow.ENDED);
                Check.dueRun("op " + op + " to " + to, flow, 0, ReplayFlow.ENDED, 0, 0, 0, 2, 8, 0, 0);
            }
        }
    }

    private static void jumpsOutOfEveryLength() {
        Check.sentence("if that is not the number of an instruction, it ends with the result 0");
        for (int length = 2; length <= 16; length++) {
            for (int to = length - 1; to <= length + 1; to++) {
                ReplayFlow flow = Check.engine(Check.JUMP, 0, to);
                for (int i = 1; i < length; i++) {
                    flow.emit(Check.END, 0, 0);
                }
                flow.start(0, 7);
                Check.due("result of a jump to " + to + " of " + length, flow.result(0), to < length ? 7 : 0);
            }
        }
    }

    private static void fallsOffTheEnd() {
        Check.sentence("A run goes on at the next instruction unless it goes elsewhere");
        for (int length = 1; length <= 16; length++) {
            ReplayFlow flow = Check.engineOf(length, Check.ADD, 1, 0);
            Check.due("start", flow.start(0, 2), ReplayFlow.ENDED);
            Check.dueRun("behind " + length, flow, 0, ReplayFlow.ENDED, 0, 0, 0, 2, 2 * length, 0, 0);
        }
        ReplayFlow notPositive = Check.engine(Check.JPOS, 0, 0);
        Check.due("behind a JPOS", notPositive.start(0, 0), ReplayFlow.ENDED);
    }

    private static void fallsOffBehindAWait() {
        Check.sentence("if that is not the number of an instruction, it ends with the result 0");
        for (int wait : WAITS) {
            for (int length = 1; length <= 16; length++) {
                ReplayFlow flow = Check.engineOf(length - 1, Check.SET, 1, 9);
                flow.emit(wait, 0, 0);
                flow.start(0, 2);
                Check.due("behind " + wait, Check.endWait(flow, 0, wait, 0, 6), ReplayFlow.ENDED);
                Check.dueRun("behind " + wait, flow, 0, ReplayFlow.ENDED, 0, 0, 0,
                        wait == Check.SLEEP ? 2 : 6, length == 1 ? 0 : 9, 0, 0);
            }
        }
    }

    private static void untilItWaitsOrEnds() {
        Check.sentence("Whenever a run doesn't wait, it goes on until it waits or ends");
        for (int wait : WAITS) {
            // From each wait on it comes, over steps, to each kind of wait and to an end.
            for (int next = Check.CALL; next <= Check.END; next++) {
                ReplayFlow flow = Check.engine(
                        wait, 1, 0, Check.SET, 2, 3, Check.JUMP, 0, 4, Check.END, 3, 0, Check.ADD, 2, 2, next, 2, 1);
                Check.due("start", flow.start(0, 2), wait - 4);
                Check.due("from " + wait + " to " + next, Check.endWait(flow, 0, wait, 0, 6), next - 4);
                Check.dueRun("from " + wait + " to " + next, flow, 0, next - 4, next == Check.CALL ? 1 : 0,
                        next == Check.END ? 6 : 0, 0, 2, wait == Check.SLEEP ? 0 : 6, 6, 0);
            }
        }
    }

    /** Each of the 24 signals is there when its TAKE is come to, 59 steps behind the last wait: 1500 instructions. */
    private static void longestWayWithinOneCall(int lastSignal, int state) {
        Check.sentence("Whenever a run doesn't wait, it goes on until it waits or ends");
        ReplayFlow flow = Check.engine(Check.SLEEP, 0, 1, Check.SET, 3, 7);
        Check.emitSteps(flow, 2, 58);
        flow.emit(Check.TAKE, 0, 1);
        flow.emit(Check.JPOS, 0, 2);
        flow.emit(Check.JUMP, 0, 8);
        for (int run = 0; run < 3; run++) {
            Check.due("start", flow.start(run, 5), ReplayFlow.SLEEPING);
            for (int i = 1; i <= 24; i++) {
                Check.due("signal " + i, flow.signal(run, 1, i < 24 ? i : lastSignal), ReplayFlow.SLEEPING);
            }
        }
        Check.due("pass", flow.pass(1), 3);
        for (int run = 0; run < 3; run++) {
            Check.dueRun("all taken within one call", flow, run, state, 0, 0, 0, lastSignal, 0, 1, 7);
        }
    }

    private static void withinTheCall() {
        Check.sentence("Waiting runs go on as soon as what they wait for is there: within the call that brings it");
        for (int wait : WAITS) {
            for (int run = 0; run < 3; run++) {
                ReplayFlow flow = Check.engine(wait, 1, 0, Check.SET, 2, 8, Check.SLEEP, 0, 100);
                flow.start(run, 0);
                Check.due("waits at " + wait, flow.register(run, 2), 0);
                Check.endWait(flow, run, wait, 0, 6);
                Check.due("has gone on from " + wait, flow.register(run, 2), 8);
            }
        }
        ReplayFlow there = Check.engine(Check.SLEEP, 0, 4, Check.TAKE, 1, 0, Check.TAKE, 2, 1, Check.END, 1, 0);
        there.start(0, 0);
        there.signal(0, 1, 21);
        there.signal(0, 0, 20);
        Check.due("both signals are there when it wakes", there.pass(4), 1);
        Check.dueRun("so it ends", there, 0, ReplayFlow.ENDED, 0, 20, 0, 0, 20, 21, 0);
    }

    /** Runs share nothing but the time, so the order itself can't be seen: that all three have gone on can. */
    private static void allRunsInOneCall() {
        Check.sentence("each run in the order 0, 1, 2");
        int[][] orders = {{0, 1, 2}, {2, 1, 0}, {1, 2, 0}};
        for (int[] order : orders) {
            ReplayFlow flow = Check.engine(Check.SLEEP, 0, 3, Check.ADD, 1, 0, Check.SLEEP, 0, 4, Check.END, 1, 0);
            for (int run : order) {
                flow.start(run, 30 + run);
            }
            Check.due("not yet", flow.pass(2), 0);
            Check.due("all wake", flow.pass(3), 3);
            for (int run = 0; run < 3; run++) {
                Check.dueRun("awake", flow, run, ReplayFlow.SLEEPING, 0, 0, 0, 30 + run, 30 + run, 0, 0);
            }
            Check.due("none at 8", flow.pass(3), 0);
            Check.due("all at 9", flow.pass(1), 3);
            for (int run = 0; run < 3; run++) {
                Check.due("result", flow.result(run), 30 + run);
            }
        }
    }
}
