/** Promises 9 to 14: state, register, activity, result, untaken and time. */
public final class AnswersTest {
    public static void main(String[] args) {
        noRuns();
        states();
        registers();
        activities();
        results();
        untaken();
        time();
        nothingChanges();
        Check.finish();
    }

    private static void noRuns() {
        ReplayFlow flow = Check.engine(Check.CALL, 0, 9);
        for (int round = 0; round < 2; round++) {
            for (int run : Check.NO_RUNS) {
                Check.due("state(" + run + ")", flow.state(run), ReplayFlow.BAD_RUN);
                Check.due("activity(" + run + ")", flow.activity(run), ReplayFlow.BAD_RUN);
                Check.due("result(" + run + ")", flow.result(run), ReplayFlow.BAD_RUN);
                Check.due("untaken(" + run + ")", flow.untaken(run), ReplayFlow.BAD_RUN);
                for (int r = -1; r < 5; r++) {
                    Check.due("register(" + run + ", " + r + ")", flow.register(run, r), 0);
                }
            }
            for (int run = 0; run < 3; run++) {
                flow.start(run, 8);
            }
        }
    }

    private static void states() {
        ReplayFlow flow = Check.engine(Check.CALL, 0, 1, Check.SLEEP, 0, 1, Check.TAKE, 0, 1, Check.END, 0, 0);
        Check.due("NONE", flow.state(1), 0);
        flow.start(1, 0);
        Check.due("CALLING", flow.state(1), 1);
        flow.answer(1, 0);
        Check.due("SLEEPING", flow.state(1), 2);
        flow.pass(1);
        Check.due("TAKING", flow.state(1), 3);
        flow.signal(1, 1, 0);
        Check.due("ENDED", flow.state(1), 4);
        Check.due("another run", flow.state(0), 0);
        Check.due("another run", flow.state(2), 0);
    }

    private static void registers() {
        ReplayFlow flow = Check.engine(Check.SET, 1, 11, Check.SET, 2, 12, Check.SET, 3, 13, Check.CALL, 0, 1, Check.CALL, 1, 2);
        for (int r = 0; r < 4; r++) {
            Check.due("not started", flow.register(2, r), 0);
        }
        flow.start(2, 10);
        int[] named = {0, 1, 2, 3, 4, 7, -1, -4, 13, Integer.MAX_VALUE, Integer.MIN_VALUE};
        for (int r : named) {
            Check.due("register(2, " + r + ")", flow.register(2, r), 10 + (r & 3));
        }
        flow.answer(2, 90);
        Check.due("as it is now", flow.register(2, 0), 90);
        flow.answer(2, 91);
        Check.due("after the end", flow.register(2, 1), 91);
        Check.due("another run's", flow.register(1, 0), 0);
    }

    private static void activities() {
        for (int b : new int[] {0, 1, -3, 77, Integer.MAX_VALUE, Integer.MIN_VALUE}) {
            ReplayFlow flow = Check.engine(Check.CALL, 0, b, Check.SLEEP, 0, 6, Check.TAKE, 0, 7, Check.END, 0, 8);
            Check.due("not started", flow.activity(0), 0);
            flow.start(0, 0);
            Check.due("calling", flow.activity(0), b);
            flow.answer(0, 0);
            Check.due("sleeping", flow.activity(0), 0);
            flow.pass(6);
            Check.due("taking", flow.activity(0), 0);
            flow.signal(0, 7, 0);
            Check.due("ended", flow.activity(0), 0);
        }
    }

    private static void results() {
        ReplayFlow flow = Check.engine(Check.CALL, 0, 1, Check.SLEEP, 0, 1, Check.TAKE, 1, 1, Check.END, 0, 0);
        Check.due("not started", flow.result(2), 0);
        flow.start(2, 5);
        Check.due("calling", flow.result(2), 0);
        flow.answer(2, -6);
        Check.due("sleeping", flow.result(2), 0);
        flow.pass(1);
        Check.due("taking", flow.result(2), 0);
        flow.signal(2, 1, 0);
        Check.due("ended", flow.result(2), -6);
        Check.due("another run's", flow.result(1), 0);
    }

    private static void untaken() {
        ReplayFlow flow = Check.engine(Check.CALL, 0, 1, Check.TAKE, 0, 0, Check.TAKE, 0, 1, Check.TAKE, 0, 1);
        Check.due("not started", flow.untaken(1), 0);
        flow.start(1, 0);
        Check.due("none", flow.untaken(1), 0);
        flow.signal(1, 0, 1);
        flow.signal(1, 0, 2);
        flow.signal(1, 1, 3);
        Check.due("three", flow.untaken(1), 3);
        flow.answer(1, 0);
        Check.due("two taken", flow.untaken(1), 1);
        flow.signal(1, 0, 4);
        Check.due("one more", flow.untaken(1), 2);
        flow.signal(1, 1, 5);
        Check.due("ended", flow.state(1), ReplayFlow.ENDED);
        Check.due("after the end", flow.untaken(1), 2);
        flow.signal(1, 1, 6);
        Check.due("a signal that was refused", flow.untaken(1), 2);
        Check.due("another run's", flow.untaken(0), 0);
    }

    private static void time() {
        ReplayFlow flow = new ReplayFlow();
        Check.due("new", flow.time(), 0);
        for (int i = 1; i <= 500; i++) {
            flow.pass(1000);
        }
        Check.due("far", flow.time(), 500000);
        flow.pass(0);
        Check.due("by 0", flow.time(), 500000);
        flow.pass(7);
        Check.due("by 7", flow.time(), 500007);
        flow.pass(-1);
        Check.due("refused", flow.time(), 500007);
        flow.clear();
        Check.due("cleared", flow.time(), 0);
    }

    private static void nothingChanges() {
        ReplayFlow flow = Check.engine(Check.CALL, 0, 4, Check.TAKE, 1, 0, Check.SLEEP, 2, 3, Check.END, 1, 0);
        readAll(flow);
        Check.due("start", flow.start(0, 1), ReplayFlow.CALLING);
        readAll(flow);
        Check.due("signal", flow.signal(0, 1, 2), ReplayFlow.CALLING);
        readAll(flow);
        Check.due("answer", flow.answer(0, 5), ReplayFlow.TAKING);
        readAll(flow);
        Check.due("signal", flow.signal(0, 0, 6), ReplayFlow.SLEEPING);
        readAll(flow);
        Check.due("pass", flow.pass(3), 1);
        readAll(flow);
        Check.dueRun("ended", flow, 0, ReplayFlow.ENDED, 0, 6, 1, 5, 6, 0, 0);
    }

    private static void readAll(ReplayFlow flow) {
        for (int run = -1; run < 4; run++) {
            flow.state(run);
            flow.activity(run);
            flow.result(run);
            flow.untaken(run);
            flow.register(run, 0);
            flow.register(run, 5);
        }
        flow.time();
    }
}
