import java.util.function.ToIntFunction;

/**
 * One script whose run comes to every state in turn, NONE, CALLING, SLEEPING,
 * TAKING and ENDED, and every answer that is due in each: so a test can make a
 * call in any state, and see that the rest of the way is as it would have been
 * without it.
 */
final class Journey {
    static final int ACTIVITY = 31;
    static final int RESULT = 11;

    private Journey() {
    }

    static ReplayFlow engineAt(int run, int state) {
        ReplayFlow flow = Check.engine(
                Check.SET, 3, 13, Check.CALL, 1, ACTIVITY, Check.SLEEP, 0, 5, Check.TAKE, 2, 1, Check.END, 1, 0);
        bring(flow, run, ReplayFlow.NONE, state);
        return flow;
    }

    static void bring(ReplayFlow flow, int run, int from, int to) {
        for (int state = from + 1; state <= to; state++) {
            bringFromTheOneBefore(flow, run, state);
        }
    }

    private static void bringFromTheOneBefore(ReplayFlow flow, int run, int state) {
        switch (state) {
            case ReplayFlow.CALLING -> {
                Check.due("start", flow.start(run, 10), ReplayFlow.CALLING);
                Check.due("signal that stays untaken", flow.signal(run, 0, 14), ReplayFlow.CALLING);
            }
            case ReplayFlow.SLEEPING -> {
                Check.due("pass ahead of the sleep", flow.pass(7), 0);
                Check.due("answer", flow.answer(run, 11), ReplayFlow.SLEEPING);
                Check.due("pass into the sleep", flow.pass(2), 0);
            }
            case ReplayFlow.TAKING -> {
                Check.due("pass to just ahead of the sleep's end", flow.pass(2), 0);
                Check.due("pass to the sleep's end", flow.pass(1), 1);
            }
            default -> Check.due("signal that is taken", flow.signal(run, 1, 12), ReplayFlow.ENDED);
        }
        dueAt("on the way", flow, run, state);
    }

    /** Every answer of an engine whose one run is in that state. */
    static void dueAt(String what, ReplayFlow flow, int run, int state) {
        String where = what + ", in state " + state;
        for (int other = 0; other < 3; other++) {
            if (other != run) {
                Check.dueNewRun(where, flow, other);
            }
        }
        Check.due(where + ": time()", flow.time(), timeIn(state));
        switch (state) {
            case ReplayFlow.NONE -> Check.dueNewRun(where, flow, run);
            case ReplayFlow.CALLING -> Check.dueRun(where, flow, run, state, ACTIVITY, 0, 1, 10, 0, 0, 13);
            case ReplayFlow.SLEEPING, ReplayFlow.TAKING -> Check.dueRun(where, flow, run, state, 0, 0, 1, 10, 11, 0, 13);
            default -> Check.dueRun(where, flow, run, state, 0, RESULT, 1, 10, 11, 12, 13);
        }
    }

    private static int timeIn(int state) {
        if (state < ReplayFlow.SLEEPING) {
            return 0;
        }
        return state == ReplayFlow.SLEEPING ? 9 : 12;
    }

    /** In that state the call answers what is due and changes nothing, neither now nor later. */
    static void changesNothing(String call, int run, int state, ToIntFunction<ReplayFlow> made, int due) {
        ReplayFlow flow = engineAt(run, state);
        Check.due(call + " in state " + state, made.applyAsInt(flow), due);
        dueAt("after " + call, flow, run, state);
        bring(flow, run, state, ReplayFlow.ENDED);
    }

    /** The same in every state. */
    static void changesNothing(String call, int run, ToIntFunction<ReplayFlow> made, int due) {
        for (int state = ReplayFlow.NONE; state <= ReplayFlow.ENDED; state++) {
            changesNothing(call, run, state, made, due);
        }
    }
}
