/** What the tests share: it counts the answers that are not the ones due, and makes scripts. */
final class Check {
    static final int SET = 0;
    static final int ADD = 1;
    static final int SUB = 2;
    static final int JUMP = 3;
    static final int JPOS = 4;
    static final int CALL = 5;
    static final int SLEEP = 6;
    static final int TAKE = 7;
    static final int END = 8;

    /** Numbers that are no run's, the ints' ends and those that a mask would make one among them. */
    static final int[] NO_RUNS = {-1, 3, 4, -2, 256, Integer.MAX_VALUE, Integer.MIN_VALUE};

    /** Ints that a mistake with signs or a cut-off would change. */
    static final int[] EDGE_INTS = {0, 1, -1, 65536, Integer.MAX_VALUE, Integer.MAX_VALUE - 1, Integer.MIN_VALUE, Integer.MIN_VALUE + 1};

    private static int wrong = 0;
    private static String sentence = "";

    private Check() {
    }

    /** Names the document's sentence that the answers from here on are due by. */
    static void sentence(String words) {
        sentence = words;
    }

    static void due(String what, long got, long want) {
        if (got != want) {
            report(what + " answered " + got + ", due is " + want);
        }
    }

    static void holds(String what, boolean holds) {
        if (!holds) {
            report("does not hold: " + what);
        }
    }

    private static void report(String words) {
        wrong++;
        System.out.println(sentence.isEmpty() ? words : "\"" + sentence + "\": " + words);
    }

    /** A new engine with the script whose instructions are op, a, b each. */
    static ReplayFlow engine(int... script) {
        ReplayFlow flow = new ReplayFlow();
        emitAll(flow, script);
        return flow;
    }

    static void emitAll(ReplayFlow flow, int... script) {
        for (int i = 0; i < script.length; i += 3) {
            due("emit number " + i / 3, flow.emit(script[i], script[i + 1], script[i + 2]), i / 3);
        }
    }

    /** A new engine with so many times the same instruction. */
    static ReplayFlow engineOf(int count, int op, int a, int b) {
        ReplayFlow flow = new ReplayFlow();
        for (int i = 0; i < count; i++) {
            due("emit number " + i, flow.emit(op, a, b), i);
        }
        return flow;
    }

    /**
     * Appends exactly that many steps, 4 or more, of op 0 to 4; the first gets the number given.
     * They set R[1] to 0 and R[2] to 1; R[3] becomes 3 with the last of an odd number of steps.
     */
    static void emitSteps(ReplayFlow flow, int first, int steps) {
        // Two steps, then rounds of two each, and one more if the number is odd.
        flow.emit(SET, 1, (steps - 2) / 2);
        flow.emit(SET, 2, 1);
        flow.emit(SUB, 1, 2);
        flow.emit(JPOS, 1, first + 2);
        if (steps % 2 != 0) {
            flow.emit(SET, 3, 3);
        }
    }

    /** Brings the value, or the shortest sleep's end, to a run that waits at such an instruction; answers its state. */
    static int endWait(ReplayFlow flow, int run, int wait, int channel, int value) {
        if (wait == CALL) {
            return flow.answer(run, value);
        }
        if (wait == TAKE) {
            return flow.signal(run, channel, value);
        }
        due("pass", flow.pass(1), 1);
        return flow.state(run);
    }

    /** Every answer about one run: state, activity, result, untaken and the four registers. */
    static void dueRun(String what, ReplayFlow flow, int run, int state, int activity, int result, int untaken, int... registers) {
        due(what + ": state(" + run + ")", flow.state(run), state);
        due(what + ": activity(" + run + ")", flow.activity(run), activity);
        due(what + ": result(" + run + ")", flow.result(run), result);
        due(what + ": untaken(" + run + ")", flow.untaken(run), untaken);
        dueRegisters(what, flow, run, registers);
    }

    static void dueRegisters(String what, ReplayFlow flow, int run, int... registers) {
        for (int r = 0; r < 4; r++) {
            due(what + ": register(" + run + ", " + r + ")", flow.register(run, r), registers[r]);
        }
    }

    static void dueNewRun(String what, ReplayFlow flow, int run) {
        dueRun(what, flow, run, ReplayFlow.NONE, 0, 0, 0, 0, 0, 0, 0);
    }

    static void finish() {
        if (wrong != 0) {
            System.out.println("not as due: " + wrong);
            System.exit(1);
        }
    }
}
