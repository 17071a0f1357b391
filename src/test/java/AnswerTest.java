/** Promise 4: answer. */
public final class AnswerTest {
    public static void main(String[] args) {
        goesOn();
        noRuns();
        notCalling();
        Check.finish();
    }

    private static void goesOn() {
        ReplayFlow flow = Check.engine(
                Check.CALL, 6, 11,
                Check.CALL, 2, 12,
                Check.SLEEP, 0, 1,
                Check.CALL, 1, 13,
                Check.TAKE, 0, 0,
                Check.CALL, 0, 14,
                Check.END, 0, 0);
        Check.due("start", flow.start(0, 1), ReplayFlow.CALLING);
        Check.due("to a call", flow.answer(0, Integer.MIN_VALUE), ReplayFlow.CALLING);
        Check.dueRun("R[a & 3] is the answer", flow, 0, ReplayFlow.CALLING, 12, 0, 0, 1, 0, Integer.MIN_VALUE, 0);
        Check.due("to a sleep", flow.answer(0, 5), ReplayFlow.SLEEPING);
        flow.pass(1);
        Check.due("to a take", flow.answer(0, 6), ReplayFlow.TAKING);
        flow.signal(0, 0, 7);
        Check.dueRun("ahead of the last", flow, 0, ReplayFlow.CALLING, 14, 0, 0, 7, 6, 5, 0);
        Check.due("to the end", flow.answer(0, Integer.MAX_VALUE), ReplayFlow.ENDED);
        Check.dueRun("ended", flow, 0, ReplayFlow.ENDED, 0, Integer.MAX_VALUE, 0, Integer.MAX_VALUE, 6, 5, 0);
    }

    private static void noRuns() {
        ReplayFlow flow = Check.engine(Check.CALL, 0, 1);
        for (int run = 0; run < 3; run++) {
            flow.start(run, 4);
        }
        for (int run : Check.NO_RUNS) {
            Check.due("answer(" + run + ")", flow.answer(run, 1), ReplayFlow.BAD_RUN);
        }
        for (int run = 0; run < 3; run++) {
            Check.dueRun("after bad answers", flow, run, ReplayFlow.CALLING, 1, 0, 0, 4, 0, 0, 0);
        }
    }

    private static void notCalling() {
        ReplayFlow flow = Check.engine(Check.SLEEP, 0, 2, Check.TAKE, 0, 0, Check.END, 0, 0);
        Check.due("not started", flow.answer(0, 9), ReplayFlow.NOT_WAITING);
        Check.dueNewRun("not started", flow, 0);
        flow.start(0, 3);
        Check.due("sleeping", flow.answer(0, 9), ReplayFlow.NOT_WAITING);
        Check.dueRun("sleeping", flow, 0, ReplayFlow.SLEEPING, 0, 0, 0, 3, 0, 0, 0);
        flow.pass(2);
        Check.due("taking", flow.answer(0, 9), ReplayFlow.NOT_WAITING);
        Check.dueRun("taking", flow, 0, ReplayFlow.TAKING, 0, 0, 0, 3, 0, 0, 0);
        flow.signal(0, 0, 5);
        Check.due("ended", flow.answer(0, 9), ReplayFlow.NOT_WAITING);
        Check.dueRun("ended", flow, 0, ReplayFlow.ENDED, 0, 5, 0, 5, 0, 0, 0);
    }
}
