/** A workflow engine: up to three runs carry out one script and wait for the outside world. */
public final class ReplayFlow {
    public static final int BAD_OP = -1;
    public static final int FULL = -2;
    public static final int BAD_RUN = -3;
    public static final int NOT_WAITING = -4;
    public static final int LOCKED = -5;
    public static final int BAD_TIME = -6;
    public static final int NONE = 0;
    public static final int CALLING = 1;
    public static final int SLEEPING = 2;
    public static final int TAKING = 3;
    public static final int ENDED = 4;

    // A run has this state only inside a call, so no caller ever sees it.
    private static final int GOING = 5;

    private static final int SET = 0;
    private static final int ADD = 1;
    private static final int SUB = 2;
    private static final int JUMP = 3;
    private static final int JPOS = 4;
    private static final int CALL = 5;
    private static final int SLEEP = 6;
    private static final int END = 8;

    private static final int SCRIPT_LENGTH = 16;
    private static final int RUNS = 3;
    private static final int REGISTERS = 4;
    private static final int ALL_REGISTERS = 12;
    private static final int CHANNELS = 2;
    private static final int ALL_CHANNELS = 6;
    private static final int SIGNALS = 24;
    private static final int ALL_SIGNALS = 144;

    private static final int STUCK_STEPS = 60;
    private static final int STUCK_WAITS = 40;
    private static final int SHORTEST_SLEEP = 1;
    private static final int LONGEST_SLEEP = 100;
    private static final int LONGEST_PASS = 1000;

    // At most 41 stretches between waits, each of at most 60 steps and one instruction more.
    private static final int MOST_INSTRUCTIONS = 2501;

    private final int[] ops = new int[SCRIPT_LENGTH];
    private final int[] targets = new int[SCRIPT_LENGTH];
    private final int[] operands = new int[SCRIPT_LENGTH];
    private int scriptLength;
    private boolean locked;
    private int now;

    private final int[] states = new int[RUNS];
    // While a run waits, its position is that of the instruction that it waits at.
    private final int[] positions = new int[RUNS];
    private final int[] steps = new int[RUNS];
    private final int[] waitsOver = new int[RUNS];
    private final int[] wakeTimes = new int[RUNS];
    private final int[] results = new int[RUNS];
    private final int[] registers = new int[ALL_REGISTERS];
    private final int[] signals = new int[ALL_SIGNALS];
    private final int[] signalsCome = new int[ALL_CHANNELS];
    private final int[] signalsTaken = new int[ALL_CHANNELS];

    public ReplayFlow() {
    }

    public int emit(int op, int a, int b) {
        if (op < SET || op > END) {
            return BAD_OP;
        }
        if (scriptLength >= SCRIPT_LENGTH) {
            return FULL;
        }
        if (locked) {
            return LOCKED;
        }
        int number = scriptLength;
        ops[number] = op;
        targets[number] = a & 3;
        operands[number] = b;
        scriptLength = number + 1;
        return number;
    }

    public int start(int run, int argument) {
        if (isNoRun(run)) {
            return BAD_RUN;
        }
        if (states[run] != NONE) {
            return LOCKED;
        }
        locked = true;
        // All else of a run that has not been started is 0 already: clear sees to that.
        registers[run * REGISTERS] = argument;
        goOn(run);
        return states[run];
    }

    public int answer(int run, int value) {
        if (isNoRun(run)) {
            return BAD_RUN;
        }
        if (states[run] != CALLING) {
            return NOT_WAITING;
        }
        registers[targetRegister(run)] = value;
        finishWait(run);
        goOn(run);
        return states[run];
    }

    public int signal(int run, int channel, int value) {
        if (isNoRun(run)) {
            return BAD_RUN;
        }
        if (states[run] == NONE || states[run] == ENDED) {
            return NOT_WAITING;
        }
        int first = run * CHANNELS;
        if (signalsCome[first] + signalsCome[first + 1] >= SIGNALS) {
            return FULL;
        }
        int queue = first + (channel & 1);
        signals[queue * SIGNALS + signalsCome[queue]] = value;
        signalsCome[queue]++;
        if (states[run] == TAKING && queue == awaitedQueue(run)) {
            takeSignal(run);
            goOn(run);
        }
        return states[run];
    }

    public int pass(int n) {
        if (n < 0 || n > LONGEST_PASS) {
            return BAD_TIME;
        }
        now += n;
        int woken = 0;
        for (int run = 0; run < RUNS; run++) {
            if (states[run] == SLEEPING && now >= wakeTimes[run]) {
                woken++;
                finishWait(run);
                goOn(run);
            }
        }
        return woken;
    }

    public int forget(int run) {
        // What a run has come to is kept by the engine and not by a worker, so a
        // worker has nothing to lose, and nothing has to be worked out again.
        return isNoRun(run) ? BAD_RUN : 0;
    }

    public void clear() {
        scriptLength = 0;
        locked = false;
        now = 0;
        for (int run = 0; run < RUNS; run++) {
            states[run] = NONE;
            positions[run] = 0;
            steps[run] = 0;
            waitsOver[run] = 0;
            wakeTimes[run] = 0;
            results[run] = 0;
        }
        for (int i = 0; i < ALL_REGISTERS; i++) {
            registers[i] = 0;
        }
        for (int i = 0; i < ALL_CHANNELS; i++) {
            signalsCome[i] = 0;
            signalsTaken[i] = 0;
        }
    }

    public int state(int run) {
        return isNoRun(run) ? BAD_RUN : states[run];
    }

    public int register(int run, int r) {
        return isNoRun(run) ? 0 : registers[run * REGISTERS + (r & 3)];
    }

    public int activity(int run) {
        if (isNoRun(run)) {
            return BAD_RUN;
        }
        return states[run] == CALLING ? operands[positions[run]] : 0;
    }

    public int result(int run) {
        return isNoRun(run) ? BAD_RUN : results[run];
    }

    public int untaken(int run) {
        if (isNoRun(run)) {
            return BAD_RUN;
        }
        int first = run * CHANNELS;
        int come = signalsCome[first] + signalsCome[first + 1];
        return come - signalsTaken[first] - signalsTaken[first + 1];
    }

    public int time() {
        return now;
    }

    private static boolean isNoRun(int run) {
        return run < 0 || run >= RUNS;
    }

    /** Carries the run out until it waits or ends. */
    private void goOn(int run) {
        states[run] = GOING;
        for (int i = 0; i < MOST_INSTRUCTIONS && states[run] == GOING; i++) {
            int position = positions[run];
            if (position < 0 || position >= scriptLength) {
                endRun(run, 0);
            } else if (ops[position] <= JPOS) {
                carryOutStep(run);
            } else if (ops[position] == END) {
                int target = targetRegister(run);
                endRun(run, registers[target]);
            } else {
                comeToWait(run);
            }
        }
    }

    private void endRun(int run, int value) {
        states[run] = ENDED;
        results[run] = value;
    }

    /** Carries out one instruction that neither waits nor ends the run. */
    private void carryOutStep(int run) {
        int position = positions[run];
        int operand = operands[position];
        int target = targetRegister(run);
        int source = run * REGISTERS + (operand & 3);
        int next = position + 1;
        switch (ops[position]) {
            case SET:
                registers[target] = operand;
                break;
            case ADD:
                registers[target] += registers[source];
                break;
            case SUB:
                registers[target] -= registers[source];
                break;
            case JUMP:
                next = operand;
                break;
            default:
                next = registers[target] > 0 ? operand : next;
                break;
        }
        positions[run] = next;
        steps[run]++;
        if (steps[run] >= STUCK_STEPS) {
            endRun(run, 0);
        }
    }

    /** Comes to a CALL, SLEEP or TAKE; a TAKE that finds its signal doesn't stop the run. */
    private void comeToWait(int run) {
        int op = ops[positions[run]];
        if (waitsOver[run] >= STUCK_WAITS) {
            endRun(run, 0);
        } else if (op == CALL) {
            states[run] = CALLING;
        } else if (op == SLEEP) {
            wakeTimes[run] = now + sleepLength(run);
            states[run] = SLEEPING;
        } else if (hasSignal(run)) {
            takeSignal(run);
        } else {
            states[run] = TAKING;
        }
    }

    private boolean hasSignal(int run) {
        int queue = awaitedQueue(run);
        return signalsTaken[queue] < signalsCome[queue];
    }

    /** Takes the first untaken signal of the channel that the run's TAKE names; there must be one. */
    private void takeSignal(int run) {
        int queue = awaitedQueue(run);
        registers[targetRegister(run)] = signals[queue * SIGNALS + signalsTaken[queue]];
        signalsTaken[queue]++;
        finishWait(run);
    }

    private void finishWait(int run) {
        waitsOver[run]++;
        steps[run] = 0;
        positions[run]++;
    }

    private int sleepLength(int run) {
        int length = operands[positions[run]];
        if (length < SHORTEST_SLEEP) {
            return SHORTEST_SLEEP;
        }
        return length > LONGEST_SLEEP ? LONGEST_SLEEP : length;
    }

    private int targetRegister(int run) {
        return run * REGISTERS + targets[positions[run]];
    }

    private int awaitedQueue(int run) {
        return run * CHANNELS + (operands[positions[run]] & 1);
    }
}
