/** Promise 8: clear. */
public final class ClearTest {
    public static void main(String[] args) {
        clearOfANewObject();
        dropsAll();
        countersStartAnew();
        Check.finish();
    }

    private static void clearOfANewObject() {
        ReplayFlow flow = new ReplayFlow();
        flow.clear();
        dueEmpty(flow);
        Check.due("emit", flow.emit(Check.END, 0, 0), 0);
        flow.clear();
        Check.due("emit after clear", flow.emit(Check.END, 0, 0), 0);
    }

    private static void dropsAll() {
        ReplayFlow flow = Check.engine(
                Check.SET, 3, 9, Check.JPOS, 0, 4, Check.CALL, 0, 7, Check.END, 0, 0,
                Check.SLEEP, 1, 2, Check.TAKE, 1, 0, Check.END, 1, 0);
        flow.start(0, 0);
        flow.start(1, 1);
        flow.start(2, 1);
        flow.pass(5);
        flow.signal(2, 1, 4);
        flow.signal(2, 0, 8);
        flow.signal(1, 1, 4);
        Check.dueRun("ended", flow, 2, ReplayFlow.ENDED, 0, 8, 1, 1, 8, 0, 9);
        flow.clear();
        dueEmpty(flow);
        Check.due("a run of no instructions", flow.start(1, 3), ReplayFlow.ENDED);
        Check.dueRun("empty", flow, 1, ReplayFlow.ENDED, 0, 0, 0, 3, 0, 0, 0);
        flow.clear();
        Check.emitAll(flow, Check.TAKE, 1, 0, Check.SLEEP, 0, 3, Check.CALL, 2, 6);
        Check.due("start", flow.start(2, 2), ReplayFlow.TAKING);
        Check.due("signal", flow.signal(2, 0, 17), ReplayFlow.SLEEPING);
        Check.due("pass", flow.pass(2), 0);
        Check.due("pass", flow.pass(1), 1);
        Check.dueRun("anew", flow, 2, ReplayFlow.CALLING, 6, 0, 0, 2, 17, 0, 0);
        Check.due("time()", flow.time(), 3);
    }

    /** What a run has used up of its steps, waits and signals is dropped too. */
    private static void countersStartAnew() {
        ReplayFlow flow = Check.engine(Check.CALL, 0, 1, Check.JUMP, 0, 0);
        flow.start(0, 0);
        for (int i = 0; i < 39; i++) {
            flow.answer(0, 0);
        }
        for (int i = 0; i < 24; i++) {
            flow.signal(0, i, 0);
        }
        flow.clear();
        Check.emitSteps(flow, 59);
        Check.due("59 steps", flow.start(0, 0), ReplayFlow.CALLING);
        flow.clear();
        Check.emitSteps(flow, 59);
        Check.due("59 steps again", flow.start(0, 0), ReplayFlow.CALLING);
        flow.clear();
        Check.emitAll(flow, Check.CALL, 0, 1, Check.JUMP, 0, 0);
        Check.due("start", flow.start(0, 0), ReplayFlow.CALLING);
        for (int i = 0; i < 39; i++) {
            Check.due("answer " + i, flow.answer(0, 0), ReplayFlow.CALLING);
        }
        for (int i = 0; i < 24; i++) {
            Check.due("signal " + i, flow.signal(0, i, 0), ReplayFlow.CALLING);
        }
        Check.due("the 25th signal", flow.signal(0, 0, 0), ReplayFlow.FULL);
        Check.due("the 40th answer", flow.answer(0, 0), ReplayFlow.ENDED);
    }

    private static void dueEmpty(ReplayFlow flow) {
        for (int run = 0; run < 3; run++) {
            Check.dueNewRun("cleared", flow, run);
            Check.due("answer", flow.answer(run, 1), ReplayFlow.NOT_WAITING);
            Check.due("signal", flow.signal(run, 0, 1), ReplayFlow.NOT_WAITING);
        }
        Check.due("time()", flow.time(), 0);
    }
}
