/** What the tests share: it counts the answers that are not the ones due, and makes scripts. */
final class Check {
    static final int SET = 0;
    static final int ADD = 1;
    static final int SUB = 2;
    static final int JUMP = 3;
    static final int JPOS = 4;
    static final int CALL = 5;
    static final int SLEEP = 6;
    static final int TAKE = 7;
    static final int END = 8;

    /** Numbers that are no run's, the ints' ends and those that a mask would make one among them. */
    static final int[] NO_RUNS = {-1, 3, 4, -2, 256, Integer.MAX_VALUE, Integer.MIN_VALUE};

    private static int wrong = 0;

    private Check() {
    }

    static void due(String what, long got, long want) {
        if (got != want) {
            wrong++;
            System.out.println(what + " answered " + got + ", due is " + want);
        }
    }

    static void holds(String what, boolean holds) {
        if (!holds) {
            wrong++;
            System.out.println("does not hold: " + what);
        }
    }

    /** A new engine with the script whose instructions are op, a, b each. */
    static ReplayFlow engine(int... script) {
        ReplayFlow flow = new ReplayFlow();
        emitAll(flow, script);
        return flow;
    }

    static void emitAll(ReplayFlow flow, int... script) {
        for (int i = 0; i < script.length; i += 3) {
            due("emit number " + i / 3, flow.emit(script[i], script[i + 1], script[i + 2]), i / 3);
        }
    }

    /** A script that comes to a CALL after exactly that many steps, 4 or more. */
    static void emitSteps(ReplayFlow flow, int steps) {
        // Two steps, then rounds of two each, and one more if the number is odd.
        int rounds = (steps - 2) / 2;
        emitAll(flow,
                SET, 1, rounds,
                SET, 2, 1,
                SUB, 1, 2,
                JPOS, 1, 2,
                steps % 2 == 0 ? CALL : SET, 3, 5,
                CALL, 3, 5,
                END, 2, 0);
    }

    /** Every answer about one run: state, activity, result, untaken and the four registers. */
    static void dueRun(String what, ReplayFlow flow, int run, int state, int activity, int result, int untaken, int... registers) {
        due(what + ": state(" + run + ")", flow.state(run), state);
        due(what + ": activity(" + run + ")", flow.activity(run), activity);
        due(what + ": result(" + run + ")", flow.result(run), result);
        due(what + ": untaken(" + run + ")", flow.untaken(run), untaken);
        for (int r = 0; r < 4; r++) {
            due(what + ": register(" + run + ", " + r + ")", flow.register(run, r), registers[r]);
        }
    }

    static void dueNewRun(String what, ReplayFlow flow, int run) {
        dueRun(what, flow, run, ReplayFlow.NONE, 0, 0, 0, 0, 0, 0, 0);
    }

    static void finish() {
        if (wrong != 0) {
            System.out.println(wrong + " answers are not as due");
            System.exit(1);
        }
    }
}
