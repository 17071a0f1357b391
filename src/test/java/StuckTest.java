/** Terms: when a run is STUCK. */
public final class StuckTest {
    public static void main(String[] args) {
        endlessJump();
        stepsFromTheStart();
        stepsFromTheLastWait();
        stepsAheadOfAnEnd();
        lastStepIsCarriedOut();
        eachStepCounts();
        takeAtOnceEndsAWait();
        waits();
        lastWaitMayEnd();
        takesAtOnceCountAsWaits();
        mixedWaits();
        Check.finish();
    }

    private static void endlessJump() {
        ReplayFlow flow = Check.engine(Check.JUMP, 0, 0);
        Check.due("start", flow.start(0, 5), ReplayFlow.ENDED);
        Check.dueRun("stuck", flow, 0, ReplayFlow.ENDED, 0, 0, 0, 5, 0, 0, 0);
    }

    private static void stepsFromTheStart() {
        for (int steps = 56; steps < 64; steps++) {
            ReplayFlow flow = new ReplayFlow();
            Check.emitSteps(flow, steps);
            Check.due("start with " + steps, flow.start(0, 0), steps < 60 ? ReplayFlow.CALLING : ReplayFlow.ENDED);
        }
    }

    private static void stepsFromTheLastWait() {
        // From the wait's end: SET, n rounds of SUB and JPOS, JUMP back to the CALL.
        for (int rounds = 27; rounds < 31; rounds++) {
            for (int wait : new int[] {Check.CALL, Check.SLEEP, Check.TAKE}) {
                ReplayFlow flow = Check.engine(
                        Check.SET, 2, 1, Check.SET, 2, 1, wait, 0, 1,
                        Check.SET, 1, rounds, Check.SUB, 1, 2, Check.JPOS, 1, 4, Check.JUMP, 0, 2);
                int waiting = flow.start(0, 1);
                int due = 2 + 2 * rounds < 60 ? waiting : ReplayFlow.ENDED;
                Check.due("wait " + wait + " with rounds " + rounds, endWait(flow, wait), due);
                if (due == waiting) {
                    Check.due("again", endWait(flow, wait), due);
                }
            }
        }
    }

    private static int endWait(ReplayFlow flow, int wait) {
        if (wait == Check.CALL) {
            return flow.answer(0, 0);
        }
        if (wait == Check.TAKE) {
            return flow.signal(0, 1, 0);
        }
        Check.due("pass", flow.pass(1), 1);
        return flow.state(0);
    }

    private static void stepsAheadOfAnEnd() {
        // SET, SET, 28 rounds: 58 steps; then what is left out or not, then END with R[2] = 1.
        for (int more = 0; more < 4; more++) {
            ReplayFlow flow = Check.engine(Check.SET, 1, 28, Check.SET, 2, 1, Check.SUB, 1, 2, Check.JPOS, 1, 2);
            for (int i = 0; i < more; i++) {
                flow.emit(Check.ADD, 3, 2);
            }
            flow.emit(Check.END, 2, 0);
            Check.due("start", flow.start(0, 0), ReplayFlow.ENDED);
            Check.due("result with " + (58 + more), flow.result(0), 58 + more < 60 ? 1 : 0);
            Check.due("steps carried out behind 58", flow.register(0, 3), more < 2 ? more : 2);
        }
    }

    private static void lastStepIsCarriedOut() {
        ReplayFlow odd = Check.engine(Check.SET, 1, 1, Check.ADD, 0, 1, Check.JUMP, 0, 1);
        odd.start(0, 0);
        Check.dueRun("the 60th is an ADD", odd, 0, ReplayFlow.ENDED, 0, 0, 0, 30, 1, 0, 0);
        ReplayFlow even = Check.engine(Check.SET, 1, 1, Check.SET, 2, 7, Check.ADD, 0, 1, Check.JUMP, 0, 2);
        even.start(0, 0);
        Check.dueRun("the 60th is a JUMP", even, 0, ReplayFlow.ENDED, 0, 0, 0, 29, 1, 7, 0);
    }

    private static void eachStepCounts() {
        int[] filler = {Check.SET, Check.ADD, Check.SUB, Check.JUMP, Check.JPOS};
        for (int op : filler) {
            // R[3] counts rounds of 14 fillers (that change R[1] or go to the next), the ADD and the JUMP.
            ReplayFlow flow = new ReplayFlow();
            for (int i = 0; i < 14; i++) {
                int b = op == Check.JUMP || op == Check.JPOS ? i + 1 : 2;
                flow.emit(op, op == Check.JPOS ? 0 : 1, b);
            }
            flow.emit(Check.ADD, 3, 0);
            flow.emit(Check.JUMP, 0, 0);
            Check.due("start", flow.start(0, 1), ReplayFlow.ENDED);
            Check.due("rounds with op " + op, flow.register(0, 3), 3);
            ReplayFlow notTaken = new ReplayFlow();
            for (int i = 0; i < 14; i++) {
                notTaken.emit(Check.JPOS, 2, 0);
            }
            notTaken.emit(Check.ADD, 3, 0);
            notTaken.emit(Check.JUMP, 0, 0);
            notTaken.start(0, 1);
            Check.due("rounds with a JPOS that doesn't jump", notTaken.register(0, 3), 3);
        }
    }

    private static void takeAtOnceEndsAWait() {
        // 41 steps, a TAKE that finds its signal, and 41 steps more, round and round.
        ReplayFlow flow = Check.engine(
                Check.SET, 3, 1, Check.CALL, 0, 0,
                Check.SET, 1, 20, Check.SUB, 1, 3, Check.JPOS, 1, 3, Check.TAKE, 2, 0, Check.JUMP, 0, 2);
        flow.start(0, 0);
        for (int i = 0; i < 5; i++) {
            flow.signal(0, 0, 50 + i);
        }
        Check.due("answer", flow.answer(0, 0), ReplayFlow.TAKING);
        Check.dueRun("five taken at once", flow, 0, ReplayFlow.TAKING, 0, 0, 0, 0, 0, 54, 1);
    }

    private static void waits() {
        for (int wait : new int[] {Check.CALL, Check.SLEEP}) {
            ReplayFlow flow = Check.engine(Check.SET, 2, 1, wait, 0, 1, Check.ADD, 1, 2, Check.JUMP, 0, 1);
            int waiting = flow.start(0, 0);
            for (int i = 1; i < 40; i++) {
                Check.due("wait " + i, endWait(flow, wait), waiting);
            }
            Check.due("the 40th", endWait(flow, wait), ReplayFlow.ENDED);
            Check.dueRun("stuck", flow, 0, ReplayFlow.ENDED, 0, 0, 0, 0, 40, 1, 0);
        }
    }

    private static void lastWaitMayEnd() {
        // R[1] counts down; the run ends by itself once 40 waits are over.
        ReplayFlow flow = Check.engine(
                Check.SET, 1, 40, Check.SET, 2, 1, Check.CALL, 0, 1, Check.SUB, 1, 2, Check.JPOS, 1, 2, Check.END, 0, 0);
        flow.start(0, 0);
        for (int i = 1; i < 40; i++) {
            Check.due("answer " + i, flow.answer(0, i), ReplayFlow.CALLING);
        }
        Check.due("the 40th answer", flow.answer(0, 99), ReplayFlow.ENDED);
        Check.due("result", flow.result(0), 99);
        stuckAtEach(Check.SLEEP);
        stuckAtEach(Check.TAKE);
        stuckAtEach(Check.CALL);
    }

    /** 40 calls are over, and the next wait is of that kind. */
    private static void stuckAtEach(int wait) {
        ReplayFlow flow = Check.engine(
                Check.SET, 1, 40, Check.SET, 2, 1, Check.CALL, 0, 1, Check.SUB, 1, 2, Check.JPOS, 1, 2,
                wait, 0, 1, Check.END, 2, 0);
        flow.start(0, 0);
        flow.signal(0, 1, 5);
        for (int i = 1; i <= 40; i++) {
            flow.answer(0, i);
        }
        Check.dueRun("stuck at " + wait, flow, 0, ReplayFlow.ENDED, 0, 0, 1, 40, 0, 1, 0);
    }

    private static void takesAtOnceCountAsWaits() {
        // 20 takes at once, one call ahead of them: 19 calls more may be over.
        ReplayFlow flow = Check.engine(
                Check.SET, 2, 1, Check.SET, 1, 20, Check.CALL, 0, 1,
                Check.TAKE, 0, 1, Check.SUB, 1, 2, Check.JPOS, 1, 3,
                Check.CALL, 3, 2, Check.JUMP, 0, 6);
        flow.start(0, 0);
        for (int i = 0; i < 20; i++) {
            flow.signal(0, 1, i);
        }
        Check.due("takes", flow.answer(0, 0), ReplayFlow.CALLING);
        for (int i = 1; i < 19; i++) {
            Check.due("call " + i, flow.answer(0, i), ReplayFlow.CALLING);
        }
        Check.due("call 19", flow.answer(0, 19), ReplayFlow.ENDED);
        Check.dueRun("stuck", flow, 0, ReplayFlow.ENDED, 0, 0, 0, 19, 0, 1, 19);
    }

    private static void mixedWaits() {
        // Each round is a call, a sleep and a take: 13 rounds are 39 waits, so the 14th call is the last.
        ReplayFlow flow = Check.engine(Check.CALL, 0, 1, Check.SLEEP, 0, 1, Check.TAKE, 0, 0, Check.JUMP, 0, 0);
        Check.due("start", flow.start(0, 0), ReplayFlow.CALLING);
        for (int i = 0; i < 13; i++) {
            Check.due("answer", flow.answer(0, 0), ReplayFlow.SLEEPING);
            Check.due("pass", flow.pass(1), 1);
            Check.due("signal", flow.signal(0, 0, 0), ReplayFlow.CALLING);
        }
        Check.due("the 40th", flow.answer(0, 0), ReplayFlow.ENDED);
    }
}
