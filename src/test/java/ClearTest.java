/** Promise 8: clear. */
public final class ClearTest {
    private static final String ALL = "Promise 8: Drops all runs and instructions; the time becomes 0.";

    public static void main(String[] args) {
        ofANewObject();
        ofAScriptAlone();
        inEveryState();
        allThreeRuns();
        sixteenAgain();
        timeBecomesNought();
        countersStartAnew();
        signalsAreGone();
        Check.finish();
    }

    private static void dueEmpty(ReplayFlow flow) {
        for (int run = 0; run < 3; run++) {
            Check.dueNewRun("cleared", flow, run);
            Check.due("answer", flow.answer(run, 1), ReplayFlow.NOT_WAITING);
            Check.due("signal", flow.signal(run, 0, 1), ReplayFlow.NOT_WAITING);
        }
        Check.due("time()", flow.time(), 0);
    }

    private static void ofANewObject() {
        Check.sentence(ALL);
        ReplayFlow flow = new ReplayFlow();
        flow.clear();
        dueEmpty(flow);
        flow.clear();
        Check.due("emit", flow.emit(Check.END, 0, 0), 0);
    }

    private static void ofAScriptAlone() {
        Check.sentence("Promise 8: Drops all runs and instructions");
        ReplayFlow flow = Check.engine(Check.CALL, 0, 1, Check.CALL, 0, 2);
        flow.clear();
        Check.due("emit after clear", flow.emit(Check.SET, 1, 6), 0);
        Check.due("the old second is no instruction", flow.start(0, 3), ReplayFlow.ENDED);
        Check.dueRun("one instruction", flow, 0, ReplayFlow.ENDED, 0, 0, 0, 3, 6, 0, 0);
    }

    private static void inEveryState() {
        Check.sentence(ALL);
        for (int run = 0; run < 3; run++) {
            for (int state = ReplayFlow.NONE; state <= ReplayFlow.ENDED; state++) {
                ReplayFlow flow = Journey.engineAt(run, state);
                flow.clear();
                dueEmpty(flow);
                Check.due("a run of no instructions", flow.start(run, 3), ReplayFlow.ENDED);
                Check.dueRun("empty", flow, run, ReplayFlow.ENDED, 0, 0, 0, 3, 0, 0, 0);
                flow.clear();
                Check.emitAll(flow, Check.TAKE, 1, 0, Check.SLEEP, 0, 3, Check.CALL, 2, 6);
                Check.due("start", flow.start(run, 2), ReplayFlow.TAKING);
                Check.due("signal", flow.signal(run, 0, 17), ReplayFlow.SLEEPING);
                Check.due("pass", flow.pass(2), 0);
                Check.due("pass", flow.pass(1), 1);
                Check.dueRun("anew", flow, run, ReplayFlow.CALLING, 6, 0, 0, 2, 17, 0, 0);
                Check.due("time()", flow.time(), 3);
            }
        }
    }

    private static void allThreeRuns() {
        Check.sentence("Promise 8: Drops all runs and instructions");
        ReplayFlow flow = Check.engine(
                Check.SET, 3, 9, Check.JPOS, 0, 4, Check.CALL, 0, 7, Check.END, 0, 0,
                Check.SLEEP, 1, 2, Check.TAKE, 1, 0, Check.END, 1, 0);
        flow.start(0, 0);
        flow.start(1, 1);
        flow.start(2, 1);
        flow.pass(5);
        flow.signal(2, 1, 4);
        flow.signal(2, 0, 8);
        flow.signal(1, 1, 4);
        Check.dueRun("ended", flow, 2, ReplayFlow.ENDED, 0, 8, 1, 1, 8, 0, 9);
        flow.clear();
        dueEmpty(flow);
        for (int run = 0; run < 3; run++) {
            Check.due("start(" + run + ")", flow.start(run, 1), ReplayFlow.ENDED);
        }
    }

    private static void sixteenAgain() {
        Check.sentence("Promise 8: Drops all runs and instructions");
        ReplayFlow flow = Check.engineOf(16, Check.ADD, 1, 0);
        flow.clear();
        for (int i = 0; i < 16; i++) {
            Check.due("emit after clear", flow.emit(Check.ADD, 2, 0), i);
        }
        Check.due("the seventeenth", flow.emit(Check.ADD, 2, 0), ReplayFlow.FULL);
        flow.start(0, 1);
        Check.dueRegisters("the new sixteen", flow, 0, 1, 0, 16, 0);
    }

    private static void timeBecomesNought() {
        Check.sentence("Promise 8: the time becomes 0");
        ReplayFlow flow = Check.engine(Check.SLEEP, 0, 50);
        flow.pass(30);
        flow.start(0, 0);
        flow.pass(20);
        flow.clear();
        Check.due("time()", flow.time(), 0);
        Check.due("nobody sleeps", flow.pass(1000), 0);
        Check.due("time()", flow.time(), 1000);
        flow.clear();
        flow.emit(Check.SLEEP, 0, 50);
        flow.start(0, 0);
        Check.due("the sleep counts from 0", flow.pass(49), 0);
        Check.due("and is over", flow.pass(1), 1);
    }

    /** What a run has used up of its steps, waits and signals is dropped too. */
    private static void countersStartAnew() {
        Check.sentence("Promise 8: Drops all runs and instructions");
        ReplayFlow flow = Check.engine(Check.CALL, 0, 1, Check.JUMP, 0, 0);
        useUp(flow);
        for (int steps : new int[] {59, 59, 60, 60, 59}) {
            flow.clear();
            Check.emitSteps(flow, 0, steps);
            flow.emit(Check.CALL, 0, 1);
            Check.due(steps + " steps", flow.start(0, 0), steps < 60 ? ReplayFlow.CALLING : ReplayFlow.ENDED);
        }
        flow.clear();
        Check.emitAll(flow, Check.CALL, 0, 1, Check.JUMP, 0, 0);
        useUp(flow);
        Check.due("the 25th signal", flow.signal(0, 0, 0), ReplayFlow.FULL);
        Check.due("the 40th answer", flow.answer(0, 0), ReplayFlow.ENDED);
    }

    /** All of a run's waits but one, and all of its signals. */
    private static void useUp(ReplayFlow flow) {
        Check.due("start", flow.start(0, 0), ReplayFlow.CALLING);
        for (int i = 0; i < 39; i++) {
            Check.due("answer " + i, flow.answer(0, 0), ReplayFlow.CALLING);
        }
        for (int i = 0; i < 24; i++) {
            Check.due("signal " + i, flow.signal(0, i, 0), ReplayFlow.CALLING);
        }
    }

    private static void signalsAreGone() {
        Check.sentence("Promise 8: Drops all runs and instructions");
        ReplayFlow flow = Check.engine(Check.TAKE, 1, 0, Check.TAKE, 1, 1, Check.TAKE, 1, 0);
        flow.start(0, 0);
        flow.signal(0, 0, 5);
        flow.signal(0, 1, 6);
        flow.clear();
        Check.emitAll(flow, Check.TAKE, 1, 0, Check.TAKE, 2, 1, Check.CALL, 0, 1);
        Check.due("start", flow.start(0, 0), ReplayFlow.TAKING);
        flow.signal(0, 1, 8);
        Check.due("signal", flow.signal(0, 0, 7), ReplayFlow.CALLING);
        Check.dueRun("the new ones are taken", flow, 0, ReplayFlow.CALLING, 1, 0, 0, 0, 7, 8, 0);
    }
}
