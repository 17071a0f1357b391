/** Promise 6: pass, and with it how long a SLEEP lasts. */
public final class PassTest {
    public static void main(String[] args) {
        badTimes();
        sleepLengths();
        sleepBeginsNow();
        newTimeForAll();
        counts();
        onlySleepers();
        Check.finish();
    }

    private static void badTimes() {
        ReplayFlow flow = Check.engine(Check.SLEEP, 0, 1);
        flow.start(0, 0);
        for (int n : new int[] {-1, 1001, 1002, 65536, Integer.MAX_VALUE, Integer.MIN_VALUE}) {
            Check.due("pass(" + n + ")", flow.pass(n), ReplayFlow.BAD_TIME);
            Check.due("time()", flow.time(), 0);
            Check.due("state", flow.state(0), ReplayFlow.SLEEPING);
        }
        Check.due("pass(0)", flow.pass(0), 0);
        Check.due("time()", flow.time(), 0);
        Check.due("state", flow.state(0), ReplayFlow.SLEEPING);
        Check.due("pass(1000)", flow.pass(1000), 1);
        Check.due("time()", flow.time(), 1000);
    }

    private static void sleepLengths() {
        int[] given = {1, 2, 50, 99, 100, 101, 1000, Integer.MAX_VALUE, 0, -1, -100, Integer.MIN_VALUE};
        int[] lasts = {1, 2, 50, 99, 100, 100, 100, 100, 1, 1, 1, 1};
        for (int i = 0; i < given.length; i++) {
            ReplayFlow flow = Check.engine(Check.SLEEP, 0, given[i], Check.END, 0, 0);
            flow.pass(13);
            Check.due("start", flow.start(0, 6), ReplayFlow.SLEEPING);
            Check.due("just ahead of " + lasts[i], flow.pass(lasts[i] - 1), 0);
            Check.due("state", flow.state(0), ReplayFlow.SLEEPING);
            Check.due("at " + lasts[i], flow.pass(1), 1);
            Check.dueRun("over", flow, 0, ReplayFlow.ENDED, 0, 6, 0, 6, 0, 0, 0);
        }
    }

    private static void sleepBeginsNow() {
        ReplayFlow flow = Check.engine(Check.CALL, 1, 0, Check.SLEEP, 0, 5);
        flow.start(0, 0);
        flow.pass(40);
        Check.due("answer", flow.answer(0, 0), ReplayFlow.SLEEPING);
        Check.due("to 44", flow.pass(4), 0);
        Check.due("to 45", flow.pass(1), 1);
        Check.due("state", flow.state(0), ReplayFlow.ENDED);
    }

    private static void newTimeForAll() {
        ReplayFlow flow = Check.engine(Check.SLEEP, 0, 2, Check.SLEEP, 0, 3, Check.END, 0, 0);
        flow.start(0, 0);
        Check.due("wakes late, once", flow.pass(500), 1);
        Check.due("sleeps again", flow.state(0), ReplayFlow.SLEEPING);
        Check.due("the second counts from the new time", flow.pass(2), 0);
        Check.due("state", flow.state(0), ReplayFlow.SLEEPING);
        Check.due("and is over", flow.pass(1), 1);
        Check.due("state", flow.state(0), ReplayFlow.ENDED);
        Check.due("nobody sleeps", flow.pass(1000), 0);
        Check.due("time()", flow.time(), 1503);
    }

    private static void counts() {
        ReplayFlow flow = Check.engine(Check.SLEEP, 0, 10, Check.ADD, 1, 0, Check.JUMP, 0, 0);
        flow.start(2, 1);
        flow.pass(3);
        flow.start(0, 2);
        flow.pass(3);
        flow.start(1, 3);
        Check.due("to 9", flow.pass(3), 0);
        Check.due("run 2 at 10", flow.pass(1), 1);
        Check.due("run 0 at 13 and run 1 at 16", flow.pass(6), 2);
        Check.due("run 2 at 20, the others at 26", flow.pass(10), 3);
        Check.due("run 0", flow.register(0, 1), 4);
        Check.due("run 1", flow.register(1, 1), 6);
        Check.due("run 2", flow.register(2, 1), 2);
        Check.due("time()", flow.time(), 26);
    }

    private static void onlySleepers() {
        ReplayFlow flow = Check.engine(Check.JPOS, 0, 3, Check.TAKE, 0, 0, Check.END, 0, 0, Check.CALL, 0, 8);
        flow.start(0, 0);
        flow.start(1, 1);
        Check.due("none sleeps", flow.pass(1000), 0);
        Check.dueRun("taking", flow, 0, ReplayFlow.TAKING, 0, 0, 0, 0, 0, 0, 0);
        Check.dueRun("calling", flow, 1, ReplayFlow.CALLING, 8, 0, 0, 1, 0, 0, 0);
        Check.dueNewRun("not started", flow, 2);
    }
}
