/** "Terms": when a run is STUCK. */
public final class StuckTest {
    private static final String STEPS = "as soon as it has carried out 60 instructions with op 0 to 4 since its start or since the end of its last wait";
    private static final String NEXT = "(whatever instruction would be next)";
    private static final String WAITS = "and also when it comes to a CALL, SLEEP or TAKE after 40 of its waits are over";
    private static final String AT_ONCE = "(A TAKE that finds its signal at once is a wait that is over.)";

    /** What a run's steps begin after: its start, or the end of a wait of a kind. */
    private static final int START = 0;
    private static final int CALL_ANSWERED = 1;
    private static final int SLEEP_OVER = 2;
    private static final int TAKE_WAITED_FOR = 3;
    private static final int TAKE_AT_ONCE = 4;

    public static void main(String[] args) {
        endlessJump();
        aheadOfEachInstruction();
        aheadOfATakeWithItsSignal();
        aheadOfOneMoreStep();
        lastStepIsCarriedOut();
        eachStepCounts();
        onlyStepsCount();
        stepsOfEachRun();
        waitsOfOneKind();
        fortiethWaitAndThe41st();
        behindTheFortieth();
        takesWaitedForCountOnce();
        takesAtOnceCountAsWaits();
        waitsOfAllKinds();
        waitsOfEachRun();
        stuckIsEnded();
        Check.finish();
    }

    private static void endlessJump() {
        Check.sentence("A run is STUCK, and ends with the result 0");
        ReplayFlow flow = Check.engine(Check.JUMP, 0, 0);
        Check.due("start", flow.start(0, 5), ReplayFlow.ENDED);
        Check.dueRun("stuck", flow, 0, ReplayFlow.ENDED, 0, 0, 0, 5, 0, 0, 0);
    }

    /**
     * A run that has gone through so many steps since then; behind them are that instruction and an END of R[2], which is 1.
     * While it waited ahead of the steps, it got a signal on channel 0.
     */
    private static ReplayFlow afterSteps(int since, int steps, int op, int b) {
        ReplayFlow flow = new ReplayFlow();
        int first = emitWaitsAhead(flow, since);
        Check.emitSteps(flow, first, steps);
        flow.emit(op, 2, b);
        flow.emit(Check.END, 2, 0);
        flow.start(0, 0);
        endTheWaitsAhead(flow, since);
        return flow;
    }

    /** With steps ahead of the last wait, which must not count behind it; answers how many instructions there are. */
    private static int emitWaitsAhead(ReplayFlow flow, int since) {
        if (since == START) {
            return 0;
        }
        if (since == TAKE_AT_ONCE) {
            flow.emit(Check.CALL, 0, 9);
        }
        for (int i = 0; i < 3; i++) {
            flow.emit(Check.SET, 3, 0);
        }
        int[] waits = {Check.CALL, Check.SLEEP, Check.TAKE, Check.TAKE};
        return flow.emit(waits[since - 1], 0, 1) + 1;
    }

    private static void endTheWaitsAhead(ReplayFlow flow, int since) {
        if (since != START) {
            flow.signal(0, 0, 1);
        }
        if (since >= TAKE_WAITED_FOR) {
            flow.signal(0, 1, 8);
        }
        if (since == CALL_ANSWERED || since == TAKE_AT_ONCE) {
            flow.answer(0, 8);
        }
        if (since == SLEEP_OVER) {
            flow.pass(1);
        }
    }

    private static void aheadOfEachInstruction() {
        Check.sentence(STEPS + " " + NEXT);
        for (int since = START; since <= TAKE_AT_ONCE; since++) {
            for (int steps = 57; steps <= 63; steps++) {
                int third = steps % 2 != 0 && steps <= 60 ? 3 : 0;
                for (int op = Check.CALL; op <= Check.END; op++) {
                    ReplayFlow flow = afterSteps(since, steps, op, 1);
                    String what = steps + " steps since " + since + " ahead of " + op;
                    Check.due(what, flow.state(0), steps < 60 ? op - 4 : ReplayFlow.ENDED);
                    Check.due(what + ": result", flow.result(0), steps < 60 && op == Check.END ? 1 : 0);
                    Check.due(what + ": activity", flow.activity(0), steps < 60 && op == Check.CALL ? 1 : 0);
                    Check.due(what + ": the last of an odd number", flow.register(0, 3), third);
                }
            }
        }
    }

    private static void aheadOfATakeWithItsSignal() {
        Check.sentence(NEXT);
        for (int since = CALL_ANSWERED; since <= TAKE_AT_ONCE; since++) {
            for (int steps = 58; steps <= 62; steps++) {
                ReplayFlow flow = afterSteps(since, steps, Check.TAKE, 0);
                String what = steps + " steps since " + since;
                Check.due(what + ": state", flow.state(0), ReplayFlow.ENDED);
                Check.due(what + ": result", flow.result(0), steps < 60 ? 1 : 0);
                Check.due(what + ": untaken", flow.untaken(0), steps < 60 ? 0 : 1);
            }
        }
    }

    private static void aheadOfOneMoreStep() {
        Check.sentence(STEPS);
        for (int since = START; since <= TAKE_AT_ONCE; since++) {
            for (int steps = 58; steps <= 61; steps++) {
                // R[2] becomes 5 if the step more is carried out, and the END behind it is come to with 59 in all.
                ReplayFlow flow = afterSteps(since, steps, Check.SET, 5);
                String what = steps + " steps and one more since " + since;
                Check.due(what + ": state", flow.state(0), ReplayFlow.ENDED);
                Check.due(what + ": register 2", flow.register(0, 2), steps < 60 ? 5 : 1);
                Check.due(what + ": result", flow.result(0), steps < 59 ? 5 : 0);
            }
        }
    }

    private static void lastStepIsCarriedOut() {
        Check.sentence(STEPS);
        ReplayFlow odd = Check.engine(Check.SET, 1, 1, Check.ADD, 0, 1, Check.JUMP, 0, 1);
        odd.start(0, 0);
        Check.dueRun("the 60th is an ADD", odd, 0, ReplayFlow.ENDED, 0, 0, 0, 30, 1, 0, 0);
        ReplayFlow even = Check.engine(Check.SET, 1, 1, Check.SET, 2, 7, Check.ADD, 0, 1, Check.JUMP, 0, 2);
        even.start(0, 0);
        Check.dueRun("the 60th is a JUMP", even, 0, ReplayFlow.ENDED, 0, 0, 0, 29, 1, 7, 0);
    }

    private static void eachStepCounts() {
        Check.sentence("60 instructions with op 0 to 4");
        // JPOS is there twice: R[0] is 1, so it goes elsewhere; R[1] is 0, so it doesn't.
        int[][] kinds = {{Check.SET, 1}, {Check.ADD, 1}, {Check.SUB, 1}, {Check.JUMP, 1}, {Check.JPOS, 0}, {Check.JPOS, 1}};
        for (int[] kind : kinds) {
            // Rounds of 14 steps of the kind, an ADD that R[3] counts, and a JUMP back.
            ReplayFlow flow = new ReplayFlow();
            for (int i = 0; i < 14; i++) {
                flow.emit(kind[0], kind[1], kind[0] >= Check.JUMP ? i + 1 : 2);
            }
            flow.emit(Check.ADD, 3, 0);
            flow.emit(Check.JUMP, 0, 0);
            Check.due("start", flow.start(0, 1), ReplayFlow.ENDED);
            // Three rounds are 48 steps; the ADD of the next would be the 63rd.
            Check.due("rounds with " + kind[0], flow.register(0, 3), 3);
        }
    }

    private static void onlyStepsCount() {
        Check.sentence("60 instructions with op 0 to 4");
        for (int wait = Check.CALL; wait <= Check.TAKE; wait++) {
            // Two waits one after another, then 59 steps, then the wait again: neither of them is a step.
            ReplayFlow flow = Check.engine(wait, 0, 1, wait, 0, 1);
            Check.emitSteps(flow, 2, 58);
            flow.emit(Check.JUMP, 0, 0);
            Check.due("start", flow.start(0, 0), wait - 4);
            for (int i = 0; i < 6; i++) {
                Check.due("wait " + i, Check.endWait(flow, 0, wait, 1, 0), wait - 4);
            }
        }
    }

    private static void stepsOfEachRun() {
        Check.sentence("since its start or since the end of its last wait");
        ReplayFlow flow = new ReplayFlow();
        Check.emitSteps(flow, 0, 59);
        flow.emit(Check.CALL, 0, 1);
        flow.emit(Check.JUMP, 0, 0);
        for (int run = 0; run < 3; run++) {
            Check.due("59 steps of run " + run, flow.start(run, 0), ReplayFlow.CALLING);
        }
        for (int run = 0; run < 3; run++) {
            Check.due("60 steps of run " + run, flow.answer(run, 0), ReplayFlow.ENDED);
        }
    }

    private static void waitsOfOneKind() {
        Check.sentence(WAITS);
        for (int wait : new int[] {Check.CALL, Check.SLEEP}) {
            ReplayFlow flow = Check.engine(Check.SET, 2, 1, wait, 0, 1, Check.ADD, 1, 2, Check.JUMP, 0, 1);
            Check.due("start", flow.start(0, 0), wait - 4);
            for (int i = 1; i < 40; i++) {
                Check.due("wait " + i, Check.endWait(flow, 0, wait, 1, 0), wait - 4);
            }
            Check.due("the 40th", Check.endWait(flow, 0, wait, 1, 0), ReplayFlow.ENDED);
            Check.dueRun("stuck", flow, 0, ReplayFlow.ENDED, 0, 0, 0, 0, 40, 1, 0);
        }
    }

    /** A run that so many calls are over for, R[2] being 1, and that has then gone on to that script's rest, from 5 on. */
    private static ReplayFlow afterCalls(int calls, int... rest) {
        ReplayFlow flow = Check.engine(
                Check.SET, 1, calls, Check.SET, 2, 1, Check.CALL, 0, 1, Check.SUB, 1, 2, Check.JPOS, 1, 2);
        for (int i = 0; i < rest.length; i += 3) {
            flow.emit(rest[i], rest[i + 1], rest[i + 2]);
        }
        flow.start(0, 0);
        flow.signal(0, 1, 5);
        for (int i = 1; i < calls; i++) {
            Check.due("answer " + i, flow.answer(0, i), ReplayFlow.CALLING);
        }
        flow.answer(0, calls);
        return flow;
    }

    private static void fortiethWaitAndThe41st() {
        Check.sentence(WAITS);
        for (int calls = 38; calls <= 40; calls++) {
            for (int wait = Check.CALL; wait <= Check.TAKE; wait++) {
                ReplayFlow flow = afterCalls(calls, wait, 3, 0, Check.END, 2, 0);
                Check.dueRun(calls + " over ahead of " + wait, flow, 0, calls < 40 ? wait - 4 : ReplayFlow.ENDED, 0, 0, 1,
                        calls, 0, 1, 0);
            }
            ReplayFlow there = afterCalls(calls, Check.TAKE, 3, 1, Check.END, 2, 0);
            Check.dueRun(calls + " over ahead of a TAKE that finds its signal", there, 0, ReplayFlow.ENDED, 0,
                    calls < 40 ? 1 : 0, calls < 40 ? 0 : 1, calls, 0, 1, calls < 40 ? 5 : 0);
        }
    }

    private static void behindTheFortieth() {
        Check.sentence(WAITS);
        Check.due("an END", afterCalls(40, Check.END, 0, 0).result(0), 40);
        Check.due("a step and an END", afterCalls(40, Check.ADD, 0, 2, Check.END, 0, 0).result(0), 41);
        ReplayFlow off = afterCalls(40, Check.SET, 3, 8);
        Check.dueRun("a step and no instruction", off, 0, ReplayFlow.ENDED, 0, 0, 1, 40, 0, 1, 8);
        ReplayFlow last = afterCalls(39, Check.CALL, 0, 7, Check.END, 0, 0);
        Check.due("the 40th call is asked for", last.activity(0), 7);
        Check.due("and answered", last.answer(0, 66), ReplayFlow.ENDED);
        Check.due("and the run goes on behind it", last.result(0), 66);
    }

    private static void takesWaitedForCountOnce() {
        Check.sentence(WAITS);
        ReplayFlow flow = Check.engine(
                Check.SET, 1, 24, Check.SET, 2, 1, Check.TAKE, 0, 1, Check.SUB, 1, 2, Check.JPOS, 1, 2,
                Check.CALL, 3, 2, Check.JUMP, 0, 5);
        flow.start(0, 0);
        for (int i = 1; i < 24; i++) {
            Check.due("signal " + i, flow.signal(0, 1, i), ReplayFlow.TAKING);
        }
        Check.due("signal 24", flow.signal(0, 1, 24), ReplayFlow.CALLING);
        for (int i = 25; i < 40; i++) {
            Check.due("wait " + i, flow.answer(0, i), ReplayFlow.CALLING);
        }
        Check.due("the 40th", flow.answer(0, 40), ReplayFlow.ENDED);
        Check.dueRun("stuck", flow, 0, ReplayFlow.ENDED, 0, 0, 0, 24, 0, 1, 40);
    }

    private static void takesAtOnceCountAsWaits() {
        Check.sentence(AT_ONCE);
        for (int takes = 1; takes <= 24; takes++) {
            // One call ahead of the takes, so that all signals are there; the other waits are calls.
            ReplayFlow flow = Check.engine(
                    Check.SET, 2, 1, Check.SET, 1, takes, Check.CALL, 0, 1,
                    Check.TAKE, 0, 1, Check.SUB, 1, 2, Check.JPOS, 1, 3,
                    Check.CALL, 3, 2, Check.JUMP, 0, 6);
            flow.start(0, 0);
            for (int i = 1; i <= takes; i++) {
                flow.signal(0, 1, i);
            }
            Check.due("takes", flow.answer(0, 0), ReplayFlow.CALLING);
            for (int over = takes + 1; over < 39; over++) {
                Check.due(over + " over, one more", flow.answer(0, over), ReplayFlow.CALLING);
            }
            Check.due("the 40th", flow.answer(0, 50), ReplayFlow.ENDED);
            Check.dueRun("stuck", flow, 0, ReplayFlow.ENDED, 0, 0, 0, takes, 0, 1, 50);
        }
    }

    private static void waitsOfAllKinds() {
        Check.sentence(WAITS);
        // Each round is a call, a sleep and a take: 13 rounds are 39 waits, so the 14th call is the last.
        ReplayFlow flow = Check.engine(Check.CALL, 0, 1, Check.SLEEP, 0, 1, Check.TAKE, 0, 0, Check.JUMP, 0, 0);
        Check.due("start", flow.start(0, 0), ReplayFlow.CALLING);
        for (int i = 0; i < 13; i++) {
            Check.due("answer", flow.answer(0, 0), ReplayFlow.SLEEPING);
            Check.due("pass", flow.pass(1), 1);
            Check.due("signal", flow.signal(0, 0, 0), ReplayFlow.CALLING);
        }
        Check.due("the 40th", flow.answer(0, 0), ReplayFlow.ENDED);
    }

    private static void waitsOfEachRun() {
        Check.sentence("after 40 of its waits are over");
        ReplayFlow flow = Check.engine(Check.CALL, 0, 1, Check.JUMP, 0, 0);
        for (int run = 0; run < 3; run++) {
            flow.start(run, 0);
        }
        for (int run = 0; run < 3; run++) {
            for (int i = 1; i < 40; i++) {
                Check.due("answer " + i + " of run " + run, flow.answer(run, i), ReplayFlow.CALLING);
            }
        }
        for (int run = 0; run < 3; run++) {
            Check.due("the 40th of run " + run, flow.answer(run, 40), ReplayFlow.ENDED);
        }
    }

    private static void stuckIsEnded() {
        Check.sentence("A run is STUCK, and ends with the result 0");
        ReplayFlow[] stuck = {afterSteps(CALL_ANSWERED, 60, Check.CALL, 1), afterCalls(40, Check.SLEEP, 0, 1)};
        for (ReplayFlow flow : stuck) {
            Check.due("answer", flow.answer(0, 1), ReplayFlow.NOT_WAITING);
            Check.due("signal", flow.signal(0, 0, 1), ReplayFlow.NOT_WAITING);
            Check.due("pass", flow.pass(1000), 0);
            Check.due("start", flow.start(0, 1), ReplayFlow.LOCKED);
            Check.due("state", flow.state(0), ReplayFlow.ENDED);
            Check.due("result", flow.result(0), 0);
        }
    }
}
