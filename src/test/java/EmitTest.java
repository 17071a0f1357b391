/** Promise 2: emit. */
public final class EmitTest {
    private static final int[] BAD_OPS = {-1, 9, 10, 16, 256, Integer.MAX_VALUE, Integer.MIN_VALUE};

    public static void main(String[] args) {
        numbers();
        badOps();
        full();
        lockedByEachRun();
        lockedByAnEndedRun();
        orderOfRefusals();
        anyOperands();
        Check.finish();
    }

    private static void numbers() {
        ReplayFlow flow = new ReplayFlow();
        for (int i = 0; i < 16; i++) {
            Check.due("emit " + i, flow.emit(i % 9, i, -i), i);
        }
    }

    private static void badOps() {
        ReplayFlow flow = Check.engine(Check.SET, 0, 3);
        for (int op : BAD_OPS) {
            Check.due("emit(" + op + ")", flow.emit(op, 0, 0), ReplayFlow.BAD_OP);
        }
        Check.due("emit after bad ones", flow.emit(Check.END, 0, 0), 1);
        Check.due("start", flow.start(0, 0), ReplayFlow.ENDED);
        Check.due("result", flow.result(0), 3);
    }

    private static void full() {
        ReplayFlow flow = new ReplayFlow();
        for (int i = 0; i < 15; i++) {
            flow.emit(Check.SET, 1, i);
        }
        Check.due("the sixteenth", flow.emit(Check.END, 1, 0), 15);
        Check.due("the seventeenth", flow.emit(Check.SET, 1, 99), ReplayFlow.FULL);
        Check.due("the eighteenth", flow.emit(Check.END, 0, 0), ReplayFlow.FULL);
        Check.due("start", flow.start(0, 7), ReplayFlow.ENDED);
        Check.due("result", flow.result(0), 14);
    }

    private static void lockedByEachRun() {
        for (int run = 0; run < 3; run++) {
            ReplayFlow flow = Check.engine(Check.CALL, 0, 1);
            flow.start(3, 0);
            flow.start(-1, 0);
            Check.due("emit after starts that were refused", flow.emit(Check.CALL, 0, 2), 1);
            flow.start(run, 0);
            Check.due("emit after start(" + run + ")", flow.emit(Check.CALL, 0, 3), ReplayFlow.LOCKED);
            flow.answer(run, 0);
            flow.answer(run, 0);
            Check.due("the run ends behind the second", flow.state(run), ReplayFlow.ENDED);
            Check.due("emit after the end", flow.emit(Check.END, 0, 0), ReplayFlow.LOCKED);
        }
    }

    private static void lockedByAnEndedRun() {
        ReplayFlow flow = new ReplayFlow();
        flow.start(1, 0);
        Check.due("emit after an empty run", flow.emit(Check.END, 0, 0), ReplayFlow.LOCKED);
        flow.start(2, 4);
        Check.dueRun("still no instructions", flow, 2, ReplayFlow.ENDED, 0, 0, 0, 4, 0, 0, 0);
        flow.clear();
        Check.due("emit after clear", flow.emit(Check.END, 0, 0), 0);
    }

    private static void orderOfRefusals() {
        ReplayFlow flow = new ReplayFlow();
        for (int i = 0; i < 16; i++) {
            flow.emit(Check.END, 0, 0);
        }
        Check.due("bad op ahead of full", flow.emit(9, 0, 0), ReplayFlow.BAD_OP);
        flow.start(0, 0);
        Check.due("full ahead of locked", flow.emit(Check.END, 0, 0), ReplayFlow.FULL);
        Check.due("bad op ahead of both", flow.emit(-1, 0, 0), ReplayFlow.BAD_OP);
        ReplayFlow other = Check.engine(Check.END, 0, 0);
        other.start(0, 0);
        Check.due("bad op ahead of locked", other.emit(9, 0, 0), ReplayFlow.BAD_OP);
    }

    private static void anyOperands() {
        ReplayFlow flow = Check.engine(
                Check.SET, Integer.MIN_VALUE, Integer.MIN_VALUE,
                Check.SET, Integer.MAX_VALUE, Integer.MAX_VALUE,
                Check.SET, -2, -7,
                Check.SET, 5, 12);
        flow.start(0, 1);
        Check.dueRun("any a and b", flow, 0, ReplayFlow.ENDED, 0, 0, 0, Integer.MIN_VALUE, 12, -7, Integer.MAX_VALUE);
    }
}
