/** Terms: what the instructions do, and where a run goes on. */
public final class InstructionsTest {
    public static void main(String[] args) {
        arithmetic();
        wrapping();
        jumps();
        jumpsOut();
        jumpIfPositive();
        fallsOffTheEnd();
        ends();
        waitAtTheLastInstruction();
        Check.finish();
    }

    private static void arithmetic() {
        ReplayFlow flow = Check.engine(
                Check.SET, 1, 5,
                Check.SET, 6, -3,
                Check.ADD, 1, 4,
                Check.SUB, 2, -7,
                Check.ADD, -1, 1,
                Check.SUB, 3, 0,
                Check.ADD, 0, 0,
                Check.END, 3, 0);
        // R0 = 10; R1 = 5; R2 = -3; R1 = 15; R2 = -18; R3 = 15; R3 = 5; R0 = 20
        flow.start(0, 10);
        Check.dueRun("arithmetic", flow, 0, ReplayFlow.ENDED, 0, 5, 0, 20, 15, -18, 5);
        ReplayFlow self = Check.engine(Check.SUB, 0, 0, Check.END, 0, 0);
        self.start(0, 10);
        Check.dueRun("a register from itself", self, 0, ReplayFlow.ENDED, 0, 0, 0, 0, 0, 0, 0);
    }

    private static void wrapping() {
        ReplayFlow flow = Check.engine(
                Check.SET, 1, Integer.MIN_VALUE, Check.SET, 2, 1, Check.ADD, 0, 2, Check.SUB, 1, 2, Check.SUB, 3, 0);
        flow.start(0, Integer.MAX_VALUE);
        Check.dueRun("wraps", flow, 0, ReplayFlow.ENDED, 0, 0, 0, Integer.MIN_VALUE, Integer.MAX_VALUE, 1, Integer.MIN_VALUE);
    }

    private static void jumps() {
        ReplayFlow flow = Check.engine(
                Check.JUMP, 9, 3, Check.SET, 1, 8, Check.END, 1, 0, Check.SET, 2, 4, Check.JUMP, 0, 1);
        flow.start(0, 0);
        Check.dueRun("on and back", flow, 0, ReplayFlow.ENDED, 0, 8, 0, 0, 8, 4, 0);
    }

    private static void jumpsOut() {
        for (int to : new int[] {-1, 3, 4, 16, 17, 1000, Integer.MAX_VALUE, Integer.MIN_VALUE}) {
            ReplayFlow flow = Check.engine(Check.SET, 1, 8, Check.JUMP, 0, to, Check.END, 1, 0);
            Check.due("jump to " + to, flow.start(0, 2), ReplayFlow.ENDED);
            Check.dueRun("jump to " + to, flow, 0, ReplayFlow.ENDED, 0, 0, 0, 2, 8, 0, 0);
            ReplayFlow positive = Check.engine(Check.SET, 1, 8, Check.JPOS, 0, to, Check.END, 1, 0);
            Check.due("jump if positive to " + to, positive.start(0, 2), ReplayFlow.ENDED);
            Check.dueRun("jump if positive to " + to, positive, 0, ReplayFlow.ENDED, 0, 0, 0, 2, 8, 0, 0);
        }
    }

    private static void jumpIfPositive() {
        int[] values = {1, 2, Integer.MAX_VALUE, 0, -1, Integer.MIN_VALUE};
        for (int value : values) {
            ReplayFlow flow = Check.engine(
                    Check.SET, 3, value, Check.JPOS, 7, 4, Check.SET, 1, 5, Check.END, 1, 0, Check.END, 3, 0);
            flow.start(0, 0);
            Check.due("JPOS with " + value, flow.result(0), value > 0 ? value : 5);
        }
    }

    private static void fallsOffTheEnd() {
        ReplayFlow flow = Check.engine(Check.SET, 0, 5);
        Check.due("start", flow.start(0, 2), ReplayFlow.ENDED);
        Check.dueRun("off the end", flow, 0, ReplayFlow.ENDED, 0, 0, 0, 5, 0, 0, 0);
        ReplayFlow sixteen = new ReplayFlow();
        for (int i = 0; i < 16; i++) {
            sixteen.emit(Check.SET, 2, i);
        }
        Check.due("start", sixteen.start(0, 2), ReplayFlow.ENDED);
        Check.dueRun("off the sixteenth", sixteen, 0, ReplayFlow.ENDED, 0, 0, 0, 2, 0, 15, 0);
    }

    private static void ends() {
        ReplayFlow flow = Check.engine(Check.SET, 2, -8, Check.END, 6, 3, Check.SET, 2, 1, Check.CALL, 0, 0);
        Check.due("start", flow.start(0, 2), ReplayFlow.ENDED);
        Check.dueRun("END", flow, 0, ReplayFlow.ENDED, 0, -8, 0, 2, 0, -8, 0);
    }

    private static void waitAtTheLastInstruction() {
        for (int wait : new int[] {Check.CALL, Check.SLEEP, Check.TAKE}) {
            ReplayFlow flow = new ReplayFlow();
            for (int i = 0; i < 15; i++) {
                flow.emit(Check.SET, 1, 9);
            }
            flow.emit(wait, 0, 0);
            flow.start(0, 2);
            flow.answer(0, 7);
            flow.signal(0, 0, 7);
            flow.pass(1);
            Check.dueRun("behind " + wait, flow, 0, ReplayFlow.ENDED, 0, 0, wait == Check.CALL ? 0 : flow.untaken(0),
                    wait == Check.SLEEP ? 2 : 7, 9, 0, 0);
        }
    }
}
