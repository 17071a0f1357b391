import java.util.function.ToIntFunction;

/** Promises 9 to 14: state, register, activity, result, untaken and time. */
public final class AnswersTest {
    public static void main(String[] args) {
        state();
        register();
        registerOfNoRun();
        activity();
        result();
        resultOfEveryEnd();
        untaken();
        untakenAsItGoes();
        time();
        badRunFirst();
        nothingChanges();
        Check.finish();
    }

    /** What the call answers of a run that comes from state to state, NONE first, and of no run. */
    private static void dueInEveryState(String call, Asked asked, int noRuns, int... due) {
        for (int run = 0; run < 3; run++) {
            for (int state = ReplayFlow.NONE; state <= ReplayFlow.ENDED; state++) {
                ReplayFlow flow = Journey.engineAt(run, state);
                Check.due(call + "(" + run + ") in state " + state, asked.of(flow, run), due[state]);
                Check.due(call + "(" + run + ") of another", asked.of(flow, (run + 1) % 3), due[ReplayFlow.NONE]);
                Check.due(call + "(" + run + ") of another", asked.of(flow, (run + 2) % 3), due[ReplayFlow.NONE]);
                for (int no : Check.NO_RUNS) {
                    Check.due(call + "(" + no + ")", asked.of(flow, no), noRuns);
                }
            }
        }
    }

    private interface Asked {
        int of(ReplayFlow flow, int run);
    }

    private static void state() {
        Check.sentence("Promise 9: The run's state; BAD_RUN.");
        dueInEveryState("state", ReplayFlow::state, ReplayFlow.BAD_RUN, 0, 1, 2, 3, 4);
    }

    private static void register() {
        Check.sentence("Promise 10: A register of the run (r & 3) now; 0 if it has not been started");
        dueInEveryState("register 0", (flow, run) -> flow.register(run, 0), 0, 0, 10, 10, 10, 10);
        dueInEveryState("register 1", (flow, run) -> flow.register(run, 1), 0, 0, 0, 11, 11, 11);
        dueInEveryState("register 2", (flow, run) -> flow.register(run, 2), 0, 0, 0, 0, 0, 12);
        dueInEveryState("register 3", (flow, run) -> flow.register(run, 3), 0, 0, 13, 13, 13, 13);
        int[] named = {0, 1, 2, 3, 4, 5, 7, 8, -1, -2, -4, -5, 256, Integer.MAX_VALUE, Integer.MIN_VALUE, Integer.MIN_VALUE + 1};
        for (int r : named) {
            for (int run = 0; run < 3; run++) {
                ReplayFlow flow = Journey.engineAt(run, ReplayFlow.ENDED);
                Check.due("register(" + run + ", " + r + ")", flow.register(run, r), 10 + (r & 3));
                Check.due("not started", flow.register((run + 1) % 3, r), 0);
            }
        }
    }

    private static void registerOfNoRun() {
        Check.sentence("Promise 10: 0 if it has not been started or run is not in 0 to 2");
        ReplayFlow flow = Check.engine(Check.SET, 1, 5, Check.SET, 2, 6, Check.SET, 3, 7, Check.CALL, 0, 0);
        for (int run = 0; run < 3; run++) {
            flow.start(run, 8);
        }
        for (int run : Check.NO_RUNS) {
            for (int r = -5; r <= 13; r++) {
                Check.due("register(" + run + ", " + r + ")", flow.register(run, r), 0);
            }
        }
    }

    private static void activity() {
        Check.sentence("Promise 11: The activity b that the run waits for; 0 if its state is not CALLING; BAD_RUN.");
        dueInEveryState("activity", ReplayFlow::activity, ReplayFlow.BAD_RUN, 0, Journey.ACTIVITY, 0, 0, 0);
        Check.sentence("Promise 11: (An activity may have that number too.)");
        int[] numbers = {0, 1, -1, ReplayFlow.BAD_RUN, ReplayFlow.NOT_WAITING, Integer.MAX_VALUE, Integer.MIN_VALUE};
        for (int b : numbers) {
            ReplayFlow flow = Check.engine(Check.CALL, 0, b, Check.CALL, 0, 6, Check.END, 0, 8);
            flow.start(0, 0);
            Check.due("state", flow.state(0), ReplayFlow.CALLING);
            Check.due("activity", flow.activity(0), b);
            flow.answer(0, 0);
            Check.due("the next activity", flow.activity(0), 6);
            flow.answer(0, 0);
            Check.due("ended", flow.activity(0), 0);
        }
    }

    private static void result() {
        Check.sentence("Promise 12: The result of an ended run; 0 otherwise; BAD_RUN.");
        dueInEveryState("result", ReplayFlow::result, ReplayFlow.BAD_RUN, 0, 0, 0, 0, Journey.RESULT);
        for (int value : Check.EDGE_INTS) {
            ReplayFlow flow = Check.engine(Check.END, 0, 0);
            flow.start(2, value);
            Check.due("result", flow.result(2), value);
        }
    }

    private static void resultOfEveryEnd() {
        Check.sentence("Promise 12: The result of an ended run");
        dueResult("END", 5, Check.engine(Check.END, 0, 0));
        dueResult("no instructions", 0, Check.engine());
        dueResult("off the end", 0, Check.engine(Check.SET, 1, 1));
        dueResult("a jump out", 0, Check.engine(Check.JUMP, 0, -1, Check.END, 0, 0));
        dueResult("stuck", 0, Check.engine(Check.JUMP, 0, 0, Check.END, 0, 0));
    }

    private static void dueResult(String end, int due, ReplayFlow flow) {
        for (int run = 0; run < 3; run++) {
            flow.start(run, 5);
            Check.due(end + ": result(" + run + ")", flow.result(run), due);
        }
    }

    private static void untaken() {
        Check.sentence("Promise 13: How many signals have come to the run that it has not taken; BAD_RUN.");
        dueInEveryState("untaken", ReplayFlow::untaken, ReplayFlow.BAD_RUN, 0, 1, 1, 1, 1);
        for (int count = 0; count <= 25; count++) {
            ReplayFlow flow = Check.engine(Check.CALL, 0, 1);
            flow.start(0, 0);
            for (int i = 0; i < count; i++) {
                flow.signal(0, i, i);
            }
            Check.due("after " + count, flow.untaken(0), Math.min(count, 24));
            flow.answer(0, 0);
            Check.due("after " + count + " and its end", flow.untaken(0), Math.min(count, 24));
        }
    }

    private static void untakenAsItGoes() {
        Check.sentence("Promise 13: How many signals have come to the run that it has not taken");
        ReplayFlow flow = Check.engine(Check.CALL, 0, 1, Check.TAKE, 0, 0, Check.TAKE, 0, 1, Check.TAKE, 0, 1);
        flow.start(1, 0);
        flow.signal(1, 0, 1);
        flow.signal(1, 0, 2);
        flow.signal(1, 1, 3);
        Check.due("three", flow.untaken(1), 3);
        flow.answer(1, 0);
        Check.due("two taken", flow.untaken(1), 1);
        flow.signal(1, 0, 4);
        Check.due("one more", flow.untaken(1), 2);
        flow.signal(1, 1, 5);
        Check.due("ended", flow.state(1), ReplayFlow.ENDED);
        Check.due("one came and was taken", flow.untaken(1), 2);
        flow.signal(1, 1, 6);
        Check.due("a signal that was refused", flow.untaken(1), 2);
        Check.due("another run's", flow.untaken(0), 0);
    }

    private static void time() {
        Check.sentence("Promise 14: The time.");
        ReplayFlow flow = new ReplayFlow();
        Check.due("new", flow.time(), 0);
        for (int i = 1; i <= 250; i++) {
            flow.pass(1000);
            Check.due("time()", flow.time(), 1000 * i);
        }
        flow.pass(7);
        Check.due("by 7", flow.time(), 250007);
        flow.pass(-1);
        flow.pass(1001);
        Check.due("refused", flow.time(), 250007);
        flow.clear();
        Check.due("cleared", flow.time(), 0);
    }

    private static void badRunFirst() {
        Check.sentence("BAD_RUN first.");
        ReplayFlow flow = new ReplayFlow();
        dueBadRuns("new", flow);
        flow.start(0, 1);
        dueBadRuns("ended", flow);
        flow.clear();
        dueBadRuns("cleared", flow);
    }

    private static void dueBadRuns(String when, ReplayFlow flow) {
        for (int run : Check.NO_RUNS) {
            Check.due(when + ": state(" + run + ")", flow.state(run), ReplayFlow.BAD_RUN);
            Check.due(when + ": activity(" + run + ")", flow.activity(run), ReplayFlow.BAD_RUN);
            Check.due(when + ": result(" + run + ")", flow.result(run), ReplayFlow.BAD_RUN);
            Check.due(when + ": untaken(" + run + ")", flow.untaken(run), ReplayFlow.BAD_RUN);
        }
    }

    private static void nothingChanges() {
        Check.sentence("The calls below change nothing that any call answers.");
        dueUnchanged("state", flow -> flow.state(1) + flow.state(-1) + flow.state(3));
        dueUnchanged("register", flow -> flow.register(1, 0) + flow.register(1, -1) + flow.register(-1, 2) + flow.register(3, 3));
        dueUnchanged("activity", flow -> flow.activity(1) + flow.activity(-1) + flow.activity(3));
        dueUnchanged("result", flow -> flow.result(1) + flow.result(-1) + flow.result(3));
        dueUnchanged("untaken", flow -> flow.untaken(1) + flow.untaken(-1) + flow.untaken(3));
        dueUnchanged("time", ReplayFlow::time);
    }

    private static void dueUnchanged(String call, ToIntFunction<ReplayFlow> asked) {
        for (int state = ReplayFlow.NONE; state <= ReplayFlow.ENDED; state++) {
            ReplayFlow flow = Journey.engineAt(1, state);
            Check.due(call + " twice", asked.applyAsInt(flow), asked.applyAsInt(flow));
            Journey.dueAt("after " + call, flow, 1, state);
            Journey.bring(flow, 1, state, ReplayFlow.ENDED);
        }
    }
}
