/** Promise 3: start. */
public final class StartTest {
    public static void main(String[] args) {
        emptyScript();
        firstWait();
        noRuns();
        startedAlready();
        runsAreApart();
        Check.finish();
    }

    private static void emptyScript() {
        ReplayFlow flow = new ReplayFlow();
        Check.due("start without instructions", flow.start(2, -9), ReplayFlow.ENDED);
        Check.dueRun("empty", flow, 2, ReplayFlow.ENDED, 0, 0, 0, -9, 0, 0, 0);
        Check.dueNewRun("not started", flow, 0);
    }

    private static void firstWait() {
        Check.due("to a call", Check.engine(Check.CALL, 0, 5).start(0, 1), ReplayFlow.CALLING);
        Check.due("to a sleep", Check.engine(Check.SLEEP, 0, 5).start(0, 1), ReplayFlow.SLEEPING);
        Check.due("to a take", Check.engine(Check.TAKE, 0, 5).start(0, 1), ReplayFlow.TAKING);
        Check.due("to an end", Check.engine(Check.END, 0, 5).start(0, 1), ReplayFlow.ENDED);
        ReplayFlow flow = Check.engine(Check.ADD, 1, 0, Check.ADD, 1, 0, Check.CALL, 1, 5);
        Check.due("steps ahead of a call", flow.start(1, 21), ReplayFlow.CALLING);
        Check.dueRun("steps", flow, 1, ReplayFlow.CALLING, 5, 0, 0, 21, 42, 0, 0);
        for (int argument : new int[] {0, -1, Integer.MAX_VALUE, Integer.MIN_VALUE}) {
            ReplayFlow ends = Check.engine(Check.END, 0, 0);
            ends.start(0, argument);
            Check.due("result is the argument", ends.result(0), argument);
        }
    }

    private static void noRuns() {
        ReplayFlow flow = Check.engine(Check.END, 0, 0);
        for (int run : Check.NO_RUNS) {
            Check.due("start(" + run + ")", flow.start(run, 1), ReplayFlow.BAD_RUN);
        }
        for (int run = 0; run < 3; run++) {
            Check.dueNewRun("after bad starts", flow, run);
        }
    }

    private static void startedAlready() {
        ReplayFlow flow = Check.engine(Check.CALL, 1, 5, Check.TAKE, 2, 0, Check.SLEEP, 0, 4);
        flow.start(0, 6);
        flow.signal(0, 1, 8);
        Check.due("start while calling", flow.start(0, 7), ReplayFlow.LOCKED);
        Check.dueRun("calling", flow, 0, ReplayFlow.CALLING, 5, 0, 1, 6, 0, 0, 0);
        flow.answer(0, 3);
        Check.due("start while taking", flow.start(0, 7), ReplayFlow.LOCKED);
        Check.dueRun("taking", flow, 0, ReplayFlow.TAKING, 0, 0, 1, 6, 3, 0, 0);
        flow.signal(0, 0, 2);
        Check.due("start while sleeping", flow.start(0, 7), ReplayFlow.LOCKED);
        Check.dueRun("sleeping", flow, 0, ReplayFlow.SLEEPING, 0, 0, 1, 6, 3, 2, 0);
        flow.pass(4);
        Check.due("start after the end", flow.start(0, 7), ReplayFlow.LOCKED);
        Check.dueRun("ended", flow, 0, ReplayFlow.ENDED, 0, 0, 1, 6, 3, 2, 0);
    }

    private static void runsAreApart() {
        ReplayFlow flow = Check.engine(Check.CALL, 3, 5, Check.TAKE, 2, 1, Check.END, 3, 0);
        for (int run = 0; run < 3; run++) {
            Check.due("start", flow.start(run, 10 + run), ReplayFlow.CALLING);
        }
        Check.due("answer", flow.answer(1, 77), ReplayFlow.TAKING);
        Check.due("signal", flow.signal(2, 1, 66), ReplayFlow.CALLING);
        Check.dueRun("run 0", flow, 0, ReplayFlow.CALLING, 5, 0, 0, 10, 0, 0, 0);
        Check.dueRun("run 1", flow, 1, ReplayFlow.TAKING, 0, 0, 0, 11, 0, 0, 77);
        Check.dueRun("run 2", flow, 2, ReplayFlow.CALLING, 5, 0, 1, 12, 0, 0, 0);
        Check.due("answer", flow.answer(2, 55), ReplayFlow.ENDED);
        Check.dueRun("run 2 ended", flow, 2, ReplayFlow.ENDED, 0, 55, 0, 12, 0, 66, 55);
        Check.dueRun("run 0 still", flow, 0, ReplayFlow.CALLING, 5, 0, 0, 10, 0, 0, 0);
        Check.dueRun("run 1 still", flow, 1, ReplayFlow.TAKING, 0, 0, 0, 11, 0, 0, 77);
    }
}
