/** Promise 1: a new object. */
public final class NewObjectTest {
    public static void main(String[] args) {
        noInstructions();
        noRuns();
        timeIsNought();
        objectsAreApart();
        Check.finish();
    }

    private static void noInstructions() {
        Check.sentence("Promise 1: No instructions");
        Check.due("first emit", new ReplayFlow().emit(Check.END, 0, 0), 0);
        ReplayFlow flow = new ReplayFlow();
        Check.due("start", flow.start(0, 6), ReplayFlow.ENDED);
        Check.due("result", flow.result(0), 0);
    }

    private static void noRuns() {
        Check.sentence("Promise 1: no runs (state NONE)");
        ReplayFlow flow = new ReplayFlow();
        for (int run = 0; run < 3; run++) {
            Check.dueNewRun("new", flow, run);
            Check.due("answer", flow.answer(run, 1), ReplayFlow.NOT_WAITING);
            Check.due("signal", flow.signal(run, 0, 1), ReplayFlow.NOT_WAITING);
        }
        Check.due("pass", flow.pass(1000), 0);
    }

    private static void timeIsNought() {
        Check.sentence("Promise 1: time 0");
        Check.due("time()", new ReplayFlow().time(), 0);
        Check.sentence("The TIME is a number, 0 at the start.");
        ReplayFlow flow = Check.engine(Check.SLEEP, 0, 1);
        flow.start(0, 0);
        Check.due("time() after calls that are no pass", flow.time(), 0);
    }

    private static void objectsAreApart() {
        Check.sentence("Promise 1: No instructions, no runs (state NONE), time 0.");
        ReplayFlow one = Check.engine(Check.TAKE, 1, 0);
        one.start(0, 5);
        one.signal(0, 1, 3);
        one.pass(7);
        ReplayFlow other = new ReplayFlow();
        Check.dueNewRun("beside another", other, 0);
        Check.due("time() beside another", other.time(), 0);
        Check.due("emit beside another", other.emit(Check.END, 0, 0), 0);
        Check.dueRun("the first", one, 0, ReplayFlow.TAKING, 0, 0, 1, 5, 0, 0, 0);
        Check.due("time() of the first", one.time(), 7);
    }
}
