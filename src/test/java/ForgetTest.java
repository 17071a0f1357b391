/** Promise 7: forget changes nothing that any call answers. ModelTest has it in between all other calls. */
public final class ForgetTest {
    public static void main(String[] args) {
        noRuns();
        inEveryState();
        Check.finish();
    }

    private static void noRuns() {
        ReplayFlow flow = new ReplayFlow();
        for (int run : Check.NO_RUNS) {
            Check.due("forget(" + run + ")", flow.forget(run), ReplayFlow.BAD_RUN);
        }
        for (int run = 0; run < 3; run++) {
            Check.due("forget(" + run + ")", flow.forget(run), 0);
            Check.dueNewRun("forgotten ahead of its start", flow, run);
        }
        Check.due("emit goes on", flow.emit(Check.END, 0, 0), 0);
        Check.due("start goes on", flow.start(0, 0), ReplayFlow.ENDED);
    }

    private static void inEveryState() {
        ReplayFlow flow = Check.engine(
                Check.CALL, 1, 31, Check.SLEEP, 0, 9, Check.TAKE, 2, 1, Check.ADD, 2, 1, Check.END, 2, 0);
        flow.start(1, 4);
        flow.signal(1, 0, 6);
        forgetTwice(flow);
        Check.dueRun("calling", flow, 1, ReplayFlow.CALLING, 31, 0, 1, 4, 0, 0, 0);
        Check.due("answer", flow.answer(1, 20), ReplayFlow.SLEEPING);
        flow.pass(4);
        forgetTwice(flow);
        Check.dueRun("sleeping", flow, 1, ReplayFlow.SLEEPING, 0, 0, 1, 4, 20, 0, 0);
        Check.due("the sleep began ahead of that", flow.pass(4), 0);
        Check.due("and ends in time", flow.pass(1), 1);
        forgetTwice(flow);
        Check.dueRun("taking", flow, 1, ReplayFlow.TAKING, 0, 0, 1, 4, 20, 0, 0);
        Check.due("signal", flow.signal(1, 1, 5), ReplayFlow.ENDED);
        forgetTwice(flow);
        Check.dueRun("ended", flow, 1, ReplayFlow.ENDED, 0, 25, 1, 4, 20, 25, 0);
        Check.due("start", flow.start(1, 0), ReplayFlow.LOCKED);
        Check.due("time()", flow.time(), 9);
    }

    private static void forgetTwice(ReplayFlow flow) {
        Check.due("forget", flow.forget(1), 0);
        Check.due("forget again", flow.forget(1), 0);
    }
}
