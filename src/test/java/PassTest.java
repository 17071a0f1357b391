/** Promise 6: pass. */
public final class PassTest {
    public static void main(String[] args) {
        byN();
        badTimes();
        wakesWhoseTimeHasCome();
        newTimeForAll();
        newTimeBehindAllThatItDoes();
        howManyWokeUp();
        wakesOnce();
        onlySleepers();
        Check.finish();
    }

    private static void byN() {
        Check.sentence("Promise 6: Time goes on by n.");
        ReplayFlow flow = new ReplayFlow();
        int[] good = {0, 1, 2, 500, 999, 1000, 0, 1000};
        int time = 0;
        for (int n : good) {
            Check.due("pass(" + n + ")", flow.pass(n), 0);
            time += n;
            Check.due("time()", flow.time(), time);
        }
    }

    private static void badTimes() {
        Check.sentence("Promise 6: n not in 0 to 1000: BAD_TIME, nothing changes.");
        for (int n : new int[] {-1, 1001, -2, 1002, 1024, 65536, -1000, Integer.MAX_VALUE, Integer.MIN_VALUE}) {
            for (int run = 0; run < 3; run++) {
                Journey.changesNothing("pass(" + n + ")", run, flow -> flow.pass(n), ReplayFlow.BAD_TIME);
            }
        }
        Journey.changesNothing("pass(0)", 1, flow -> flow.pass(0), 0);
        ReplayFlow edge = Check.engine(Check.SLEEP, 0, 100);
        edge.start(0, 0);
        Check.due("pass(1001)", edge.pass(1001), ReplayFlow.BAD_TIME);
        Check.due("pass(1000)", edge.pass(1000), 1);
        Check.due("time()", edge.time(), 1000);
    }

    private static void wakesWhoseTimeHasCome() {
        Check.sentence("Promise 6: Then every sleeping run whose time has come goes on");
        for (int passed = 8; passed <= 12; passed++) {
            ReplayFlow flow = Check.engine(Check.SLEEP, 0, 10, Check.ADD, 1, 0, Check.CALL, 0, 4);
            for (int run = 0; run < 3; run++) {
                flow.start(run, 5);
            }
            Check.due("pass(" + passed + ")", flow.pass(passed), passed < 10 ? 0 : 3);
            for (int run = 0; run < 3; run++) {
                boolean wakes = passed >= 10;
                Check.dueRun("after " + passed, flow, run, wakes ? ReplayFlow.CALLING : ReplayFlow.SLEEPING, wakes ? 4 : 0, 0, 0,
                        5, wakes ? 5 : 0, 0, 0);
            }
        }
    }

    private static void newTimeForAll() {
        Check.sentence("Promise 6: (the new time being the time for all that it does)");
        for (int run = 0; run < 3; run++) {
            ReplayFlow flow = Check.engine(Check.SLEEP, 0, 2, Check.SLEEP, 0, 3, Check.END, 0, 0);
            flow.start(run, 0);
            Check.due("wakes late, once", flow.pass(500), 1);
            Check.due("sleeps again", flow.state(run), ReplayFlow.SLEEPING);
            Check.due("the second counts from the new time", flow.pass(2), 0);
            Check.due("state", flow.state(run), ReplayFlow.SLEEPING);
            Check.due("and is over", flow.pass(1), 1);
            Check.due("state", flow.state(run), ReplayFlow.ENDED);
        }
    }

    private static void newTimeBehindAllThatItDoes() {
        Check.sentence("Promise 6: (the new time being the time for all that it does)");
        ReplayFlow flow = Check.engine(
                Check.SLEEP, 0, 2, Check.TAKE, 1, 0, Check.ADD, 2, 1, Check.SLEEP, 0, 3, Check.END, 2, 0);
        for (int run = 0; run < 3; run++) {
            flow.start(run, 0);
            flow.signal(run, 0, 40 + run);
        }
        Check.due("all wake late, take and sleep", flow.pass(9), 3);
        for (int run = 0; run < 3; run++) {
            Check.dueRun("sleeps", flow, run, ReplayFlow.SLEEPING, 0, 0, 0, 0, 40 + run, 40 + run, 0);
        }
        Check.due("to 11", flow.pass(2), 0);
        Check.due("to 12", flow.pass(1), 3);
        for (int run = 0; run < 3; run++) {
            Check.due("result", flow.result(run), 40 + run);
        }
    }

    private static void howManyWokeUp() {
        Check.sentence("Promise 6: Answers how many runs woke up.");
        ReplayFlow flow = Check.engine(Check.SLEEP, 0, 10, Check.ADD, 1, 0, Check.JUMP, 0, 0);
        flow.start(2, 1);
        flow.pass(3);
        flow.start(0, 2);
        flow.pass(3);
        flow.start(1, 3);
        Check.due("to 9", flow.pass(3), 0);
        Check.due("run 2 at 10", flow.pass(1), 1);
        Check.due("run 0 at 13 and run 1 at 16", flow.pass(6), 2);
        Check.due("run 2 at 20, the others at 26", flow.pass(10), 3);
        Check.due("run 0", flow.register(0, 1), 4);
        Check.due("run 1", flow.register(1, 1), 6);
        Check.due("run 2", flow.register(2, 1), 2);
        ReplayFlow ends = Check.engine(Check.SLEEP, 0, 1, Check.END, 0, 0);
        ends.start(0, 4);
        ends.start(2, 4);
        Check.due("two that end", ends.pass(1), 2);
        Check.due("none is left", ends.pass(1000), 0);
    }

    private static void wakesOnce() {
        Check.sentence("Promise 6: (A run that wakes up and sleeps again, and is due at once, can't be: a sleep lasts at least 1.)");
        for (int b : new int[] {1, 0, -1, Integer.MIN_VALUE}) {
            ReplayFlow flow = Check.engine(Check.SLEEP, 0, b, Check.ADD, 1, 0, Check.JUMP, 0, 0);
            flow.start(0, 1);
            Check.due("a long time", flow.pass(1000), 1);
            Check.due("woke once", flow.register(0, 1), 1);
            Check.due("state", flow.state(0), ReplayFlow.SLEEPING);
            Check.due("no time", flow.pass(0), 0);
            Check.due("the shortest time", flow.pass(1), 1);
            Check.due("woke twice", flow.register(0, 1), 2);
        }
    }

    private static void onlySleepers() {
        Check.sentence("Promise 6: every sleeping run whose time has come goes on");
        int[] others = {ReplayFlow.NONE, ReplayFlow.CALLING, ReplayFlow.TAKING, ReplayFlow.ENDED};
        for (int run = 0; run < 3; run++) {
            for (int state : others) {
                ReplayFlow flow = Journey.engineAt(run, state);
                Check.due("pass in state " + state, flow.pass(1000), 0);
                Check.due("state", flow.state(run), state);
            }
        }
    }
}
