/** Promise 2: emit. */
public final class EmitTest {
    private static final int[] BAD_OPS = {-1, 9, -2, 10, 16, 256, Integer.MAX_VALUE, Integer.MIN_VALUE};

    public static void main(String[] args) {
        answersItsNumber();
        anyInts();
        badOps();
        nothingChangesByABadOp();
        sixteen();
        nothingChangesWhenFull();
        lockedByEachRun();
        lockedInEveryState();
        lockedByARunOfNoInstructions();
        lockedByAStartAlone();
        lockedSinceCleared();
        nothingChangesWhenLocked();
        orderOfRefusals();
        Check.finish();
    }

    private static void answersItsNumber() {
        Check.sentence("Promise 2: Else answers its number.");
        ReplayFlow flow = new ReplayFlow();
        for (int i = 0; i < 16; i++) {
            Check.due("emit " + i, flow.emit(i % 9, i, -i), i);
        }
    }

    private static void anyInts() {
        Check.sentence("Promise 2: Appends an instruction, a and b any ints.");
        for (int a : Check.EDGE_INTS) {
            for (int b : Check.EDGE_INTS) {
                ReplayFlow flow = new ReplayFlow();
                for (int op = 0; op <= 8; op++) {
                    Check.due("emit(" + op + ", " + a + ", " + b + ")", flow.emit(op, a, b), op);
                }
                ReplayFlow set = Check.engine(Check.SET, a, b);
                set.start(0, 1);
                Check.due("SET " + a + " " + b, set.register(0, a & 3), b);
            }
        }
    }

    private static void badOps() {
        Check.sentence("Promise 2: op not in 0 to 8: BAD_OP");
        for (int op = 0; op <= 8; op++) {
            Check.due("emit(" + op + ")", new ReplayFlow().emit(op, 0, 0), 0);
        }
        for (int op : BAD_OPS) {
            Check.due("emit(" + op + ")", new ReplayFlow().emit(op, 0, 0), ReplayFlow.BAD_OP);
        }
    }

    private static void nothingChangesByABadOp() {
        Check.sentence("Promise 2: op not in 0 to 8: BAD_OP; .. nothing changes then");
        for (int op : BAD_OPS) {
            ReplayFlow flow = Check.engine(Check.ADD, 1, 0);
            Check.due("emit(" + op + ")", flow.emit(op, 1, 0), ReplayFlow.BAD_OP);
            for (int run = 0; run < 3; run++) {
                Check.dueNewRun("after emit(" + op + ")", flow, run);
            }
            Check.due("time()", flow.time(), 0);
            Check.due("the next has the next number", flow.emit(Check.ADD, 1, 0), 1);
            flow.emit(op, 1, 0);
            Check.due("start", flow.start(0, 3), ReplayFlow.ENDED);
            Check.dueRun("two instructions", flow, 0, ReplayFlow.ENDED, 0, 0, 0, 3, 6, 0, 0);
        }
    }

    private static void sixteen() {
        Check.sentence("Promise 2: there are sixteen: FULL");
        ReplayFlow flow = Check.engineOf(14, Check.ADD, 1, 0);
        Check.due("the fifteenth", flow.emit(Check.ADD, 1, 0), 14);
        Check.due("the sixteenth", flow.emit(Check.ADD, 1, 0), 15);
        for (int op = 0; op <= 8; op++) {
            Check.due("emit(" + op + ") with sixteen", flow.emit(op, 0, 0), ReplayFlow.FULL);
        }
    }

    private static void nothingChangesWhenFull() {
        Check.sentence("Promise 2: there are sixteen: FULL; .. nothing changes then");
        ReplayFlow flow = Check.engineOf(16, Check.ADD, 1, 0);
        Check.due("the seventeenth", flow.emit(Check.SET, 1, 99), ReplayFlow.FULL);
        Check.due("the eighteenth", flow.emit(Check.CALL, 0, 0), ReplayFlow.FULL);
        for (int run = 0; run < 3; run++) {
            Check.dueNewRun("after FULL", flow, run);
            Check.due("start", flow.start(run, 2), ReplayFlow.ENDED);
            Check.dueRun("the sixteen", flow, run, ReplayFlow.ENDED, 0, 0, 0, 2, 32, 0, 0);
        }
        flow.clear();
        Check.due("emit after clear", flow.emit(Check.END, 0, 0), 0);
    }

    private static void lockedByEachRun() {
        Check.sentence("Promise 2: a run has been started since the engine was made or cleared: LOCKED");
        for (int run = 0; run < 3; run++) {
            ReplayFlow flow = Check.engine(Check.CALL, 0, 1);
            Check.due("emit ahead of any start", flow.emit(Check.CALL, 0, 2), 1);
            flow.start(run, 0);
            for (int op = 0; op <= 8; op++) {
                Check.due("emit(" + op + ") after start(" + run + ")", flow.emit(op, 0, 0), ReplayFlow.LOCKED);
            }
        }
    }

    private static void lockedInEveryState() {
        Check.sentence("Promise 2: a run has been started since the engine was made or cleared: LOCKED");
        for (int run = 0; run < 3; run++) {
            Check.due("emit in state NONE", Journey.engineAt(run, ReplayFlow.NONE).emit(Check.END, 0, 0), 5);
            for (int state = ReplayFlow.CALLING; state <= ReplayFlow.ENDED; state++) {
                Journey.changesNothing("emit", run, state, flow -> flow.emit(Check.CALL, 0, 0), ReplayFlow.LOCKED);
            }
        }
    }

    private static void lockedByARunOfNoInstructions() {
        Check.sentence("Promise 2: a run has been started since the engine was made or cleared: LOCKED");
        ReplayFlow flow = new ReplayFlow();
        flow.start(1, 0);
        Check.due("emit after a run that ended at once", flow.emit(Check.CALL, 0, 0), ReplayFlow.LOCKED);
        flow.start(2, 4);
        Check.dueRun("still no instructions", flow, 2, ReplayFlow.ENDED, 0, 0, 0, 4, 0, 0, 0);
    }

    private static void lockedByAStartAlone() {
        Check.sentence("Promise 2: a run has been started since the engine was made or cleared: LOCKED");
        ReplayFlow flow = new ReplayFlow();
        for (int run : Check.NO_RUNS) {
            flow.start(run, 0);
        }
        flow.answer(0, 1);
        flow.signal(0, 0, 1);
        flow.pass(5);
        flow.forget(0);
        flow.clear();
        flow.pass(5);
        Check.due("emit though no run has been started", flow.emit(Check.END, 0, 0), 0);
    }

    private static void lockedSinceCleared() {
        Check.sentence("Promise 2: a run has been started since the engine was made or cleared: LOCKED");
        ReplayFlow flow = Check.engine(Check.CALL, 0, 1);
        flow.start(0, 0);
        Check.due("emit since made", flow.emit(Check.END, 0, 0), ReplayFlow.LOCKED);
        flow.clear();
        Check.due("emit since cleared", flow.emit(Check.END, 0, 0), 0);
        flow.start(2, 0);
        Check.due("emit since a start after clear", flow.emit(Check.END, 0, 0), ReplayFlow.LOCKED);
        flow.clear();
        Check.due("emit since cleared again", flow.emit(Check.END, 0, 0), 0);
    }

    private static void nothingChangesWhenLocked() {
        Check.sentence("Promise 2: a run has been started since the engine was made or cleared: LOCKED; nothing changes then");
        ReplayFlow flow = Check.engine(Check.CALL, 1, 1);
        flow.start(0, 3);
        Check.due("emit", flow.emit(Check.SET, 2, 9), ReplayFlow.LOCKED);
        Check.dueRun("still calling", flow, 0, ReplayFlow.CALLING, 1, 0, 0, 3, 0, 0, 0);
        Check.due("no instruction behind the first", flow.answer(0, 6), ReplayFlow.ENDED);
        Check.dueRun("ended", flow, 0, ReplayFlow.ENDED, 0, 0, 0, 3, 6, 0, 0);
        Check.due("the first is what it was", flow.start(1, 3), ReplayFlow.CALLING);
        Check.due("activity", flow.activity(1), 1);
    }

    private static void orderOfRefusals() {
        Check.sentence("Promise 2: BAD_OP; .. FULL; .. LOCKED");
        ReplayFlow flow = Check.engineOf(16, Check.END, 0, 0);
        Check.due("bad op and full", flow.emit(9, 0, 0), ReplayFlow.BAD_OP);
        flow.start(0, 0);
        Check.due("full and locked", flow.emit(Check.END, 0, 0), ReplayFlow.FULL);
        Check.due("bad op, full and locked", flow.emit(-1, 0, 0), ReplayFlow.BAD_OP);
        ReplayFlow fifteen = Check.engineOf(15, Check.END, 0, 0);
        fifteen.start(0, 0);
        Check.due("bad op and locked", fifteen.emit(9, 0, 0), ReplayFlow.BAD_OP);
        Check.due("locked alone", fifteen.emit(Check.END, 0, 0), ReplayFlow.LOCKED);
    }
}
