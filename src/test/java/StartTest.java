/** Promise 3: start. */
public final class StartTest {
    public static void main(String[] args) {
        atInstructionNought();
        withoutInstructions();
        registers();
        noSignals();
        badRuns();
        startedAlready();
        eachRunOnce();
        againAfterClear();
        goesOnAndAnswersItsState();
        runsAreApart();
        Check.finish();
    }

    private static void atInstructionNought() {
        Check.sentence("Promise 3: Starts a run at instruction 0");
        for (int run = 0; run < 3; run++) {
            ReplayFlow flow = Check.engine(Check.CALL, 0, 20, Check.CALL, 0, 21, Check.JUMP, 0, 1);
            Check.due("start(" + run + ")", flow.start(run, 0), ReplayFlow.CALLING);
            Check.due("activity", flow.activity(run), 20);
        }
    }

    private static void withoutInstructions() {
        Check.sentence("Promise 3: a run of a script without instructions ends at once with the result 0");
        for (int run = 0; run < 3; run++) {
            ReplayFlow flow = new ReplayFlow();
            Check.due("start without instructions", flow.start(run, -9), ReplayFlow.ENDED);
            Check.dueRun("ended", flow, run, ReplayFlow.ENDED, 0, 0, 0, -9, 0, 0, 0);
            Check.dueNewRun("not started", flow, (run + 1) % 3);
            Check.due("started though", flow.start(run, 1), ReplayFlow.LOCKED);
            Check.due("answer", flow.answer(run, 1), ReplayFlow.NOT_WAITING);
            Check.due("signal", flow.signal(run, 0, 1), ReplayFlow.NOT_WAITING);
            flow.clear();
            flow.emit(Check.END, 0, 0);
            flow.clear();
            Check.due("start after clear", flow.start(run, 6), ReplayFlow.ENDED);
            Check.dueRun("ended", flow, run, ReplayFlow.ENDED, 0, 0, 0, 6, 0, 0, 0);
        }
        ReplayFlow one = Check.engine(Check.END, 0, 0);
        one.start(0, -9);
        Check.due("result with one instruction", one.result(0), -9);
    }

    private static void registers() {
        Check.sentence("Promise 3: R[0] being the argument, the other registers 0");
        for (int argument : Check.EDGE_INTS) {
            ReplayFlow flow = Check.engine(Check.CALL, 0, 1, Check.END, 0, 0);
            flow.start(1, argument);
            Check.dueRegisters("argument " + argument, flow, 1, argument, 0, 0, 0);
        }
        ReplayFlow used = Check.engine(Check.SET, 1, 5, Check.SET, 2, 6, Check.SET, 3, 7, Check.CALL, 0, 1);
        for (int run = 0; run < 3; run++) {
            used.start(run, 8);
        }
        used.clear();
        used.emit(Check.CALL, 0, 1);
        for (int run = 0; run < 3; run++) {
            used.start(run, 9);
            Check.dueRegisters("after clear", used, run, 9, 0, 0, 0);
        }
    }

    private static void noSignals() {
        Check.sentence("Promise 3: no signals on its channels");
        for (int channel = 0; channel < 2; channel++) {
            ReplayFlow flow = Check.engine(Check.TAKE, 0, channel);
            flow.signal(0, channel, 5);
            Check.due("a signal ahead of the start was refused", flow.start(0, 0), ReplayFlow.TAKING);
            Check.due("untaken", flow.untaken(0), 0);
            flow.signal(0, 1 - channel, 6);
            flow.clear();
            flow.emit(Check.TAKE, 0, 1 - channel);
            Check.due("a signal ahead of clear is gone", flow.start(0, 0), ReplayFlow.TAKING);
            Check.due("untaken", flow.untaken(0), 0);
        }
    }

    private static void badRuns() {
        Check.sentence("Promise 3: run not in 0 to 2: BAD_RUN; .. nothing changes then");
        for (int run : Check.NO_RUNS) {
            Journey.changesNothing("start(" + run + ")", 0, flow -> flow.start(run, 1), ReplayFlow.BAD_RUN);
            Journey.changesNothing("start(" + run + ")", 2, flow -> flow.start(run, 1), ReplayFlow.BAD_RUN);
            ReplayFlow flow = new ReplayFlow();
            flow.start(run, 1);
            Check.due("emit is not locked by start(" + run + ")", flow.emit(Check.END, 0, 0), 0);
        }
        for (int run = 0; run < 3; run++) {
            Check.due("start(" + run + ")", Check.engine(Check.END, 0, 0).start(run, 1), ReplayFlow.ENDED);
        }
    }

    private static void startedAlready() {
        Check.sentence("Promise 3: it has been started: LOCKED; nothing changes then");
        for (int run = 0; run < 3; run++) {
            int same = run;
            for (int state = ReplayFlow.CALLING; state <= ReplayFlow.ENDED; state++) {
                Journey.changesNothing("start", run, state, flow -> flow.start(same, 99), ReplayFlow.LOCKED);
            }
        }
    }

    private static void eachRunOnce() {
        Check.sentence("Promise 3: it has been started: LOCKED");
        ReplayFlow flow = Check.engine(Check.END, 0, 0);
        for (int run = 0; run < 3; run++) {
            Check.due("first start(" + run + ")", flow.start(run, 1), ReplayFlow.ENDED);
            Check.due("second start(" + run + ")", flow.start(run, 2), ReplayFlow.LOCKED);
            Check.due("result", flow.result(run), 1);
        }
    }

    private static void againAfterClear() {
        Check.sentence("Promise 3: it has been started: LOCKED");
        ReplayFlow flow = Journey.engineAt(1, ReplayFlow.ENDED);
        flow.clear();
        Check.due("start after clear", flow.start(1, 3), ReplayFlow.ENDED);
        Check.due("and once more", flow.start(1, 3), ReplayFlow.LOCKED);
    }

    private static void goesOnAndAnswersItsState() {
        Check.sentence("Promise 3: Else it goes on as said; answers its state.");
        for (int op = Check.CALL; op <= Check.END; op++) {
            ReplayFlow flow = Check.engine(Check.ADD, 1, 0, Check.ADD, 1, 0, op, 1, 5);
            Check.due("start, to " + op, flow.start(1, 21), op - 4);
            Check.dueRun("steps are carried out", flow, 1, op - 4, op == Check.CALL ? 5 : 0, op == Check.END ? 42 : 0, 0,
                    21, 42, 0, 0);
        }
    }

    private static void runsAreApart() {
        Check.sentence("each with four registers (0 to 3, ints that wrap) of its own");
        ReplayFlow flow = Check.engine(Check.CALL, 3, 5, Check.TAKE, 2, 1, Check.END, 3, 0);
        for (int run = 0; run < 3; run++) {
            Check.due("start", flow.start(run, 10 + run), ReplayFlow.CALLING);
        }
        Check.due("answer", flow.answer(1, 77), ReplayFlow.TAKING);
        Check.due("signal", flow.signal(2, 1, 66), ReplayFlow.CALLING);
        Check.dueRun("run 0", flow, 0, ReplayFlow.CALLING, 5, 0, 0, 10, 0, 0, 0);
        Check.dueRun("run 1", flow, 1, ReplayFlow.TAKING, 0, 0, 0, 11, 0, 0, 77);
        Check.dueRun("run 2", flow, 2, ReplayFlow.CALLING, 5, 0, 1, 12, 0, 0, 0);
        Check.due("answer", flow.answer(2, 55), ReplayFlow.ENDED);
        Check.dueRun("run 2 ended", flow, 2, ReplayFlow.ENDED, 0, 55, 0, 12, 0, 66, 55);
        Check.dueRun("run 0 still", flow, 0, ReplayFlow.CALLING, 5, 0, 0, 10, 0, 0, 0);
        Check.dueRun("run 1 still", flow, 1, ReplayFlow.TAKING, 0, 0, 0, 11, 0, 0, 77);
    }
}
