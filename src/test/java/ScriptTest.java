/** "What it is" and the first words of "Terms": the script, the runs and their registers. */
public final class ScriptTest {
    public static void main(String[] args) {
        calls();
        sixteenInstructions();
        numberedFromNought();
        threeRuns();
        fourRegistersOfItsOwn();
        intsThatWrap();
        Check.finish();
    }

    private static void calls() {
        Check.sentence("An object is used for at most 512 calls after it has been made");
        ReplayFlow flow = Check.engine(Check.SLEEP, 0, 100, Check.ADD, 1, 0, Check.JUMP, 0, 0);
        for (int run = 0; run < 3; run++) {
            flow.start(run, run + 1);
        }
        // Six calls are made so far; the passes are calls 7 to 509.
        for (int call = 7; call < 510; call++) {
            Check.due("pass, call " + call, flow.pass(1000), call < 7 + 40 ? 3 : 0);
        }
        Check.due("register, call 510", flow.register(2, 1), 120);
        Check.due("pass, call 511", flow.pass(1), 0);
        Check.due("time, call 512", flow.time(), 503001);
    }

    private static void sixteenInstructions() {
        Check.sentence("a list of at most 16 instructions");
        for (int length = 0; length <= 17; length++) {
            ReplayFlow flow = new ReplayFlow();
            for (int i = 0; i < length; i++) {
                Check.due("emit after " + i, flow.emit(Check.ADD, 1, 0), i < 16 ? i : ReplayFlow.FULL);
            }
            Check.due("start", flow.start(0, 1), ReplayFlow.ENDED);
            Check.due("instructions carried out of " + length, flow.register(0, 1), Math.min(length, 16));
        }
    }

    private static void numberedFromNought() {
        Check.sentence("numbered from 0");
        for (int to = 1; to < 16; to++) {
            ReplayFlow flow = Check.engine(Check.JUMP, 0, to);
            for (int i = 1; i < 16; i++) {
                Check.due("emit", flow.emit(Check.CALL, 0, 100 + i), i);
            }
            flow.start(0, 0);
            Check.due("the CALL with the number " + to, flow.activity(0), 100 + to);
        }
        ReplayFlow back = Check.engine(Check.CALL, 0, 100, Check.CALL, 0, 101, Check.JUMP, 0, 0);
        back.start(0, 0);
        Check.due("instruction 0 is the first", back.activity(0), 100);
        back.answer(0, 0);
        back.answer(0, 0);
        Check.due("and is gone to by its number", back.activity(0), 100);
    }

    private static void threeRuns() {
        Check.sentence("up to three RUNS (0 to 2)");
        ReplayFlow flow = Check.engine(Check.CALL, 1, 6, Check.ADD, 1, 0, Check.END, 1, 0);
        for (int run = 2; run >= 0; run--) {
            Check.due("start(" + run + ")", flow.start(run, 10 * run), ReplayFlow.CALLING);
        }
        Check.due("start(-1)", flow.start(-1, 0), ReplayFlow.BAD_RUN);
        Check.due("start(3)", flow.start(3, 0), ReplayFlow.BAD_RUN);
        for (int run = 0; run < 3; run++) {
            Check.due("answer(" + run + ")", flow.answer(run, run), ReplayFlow.ENDED);
        }
        for (int run = 0; run < 3; run++) {
            Check.due("result(" + run + ")", flow.result(run), 11 * run);
        }
    }

    private static void fourRegistersOfItsOwn() {
        Check.sentence("each with four registers (0 to 3, ints that wrap) of its own");
        ReplayFlow flow = Check.engine(
                Check.CALL, 1, 0, Check.CALL, 2, 0, Check.CALL, 3, 0, Check.CALL, 0, 0, Check.CALL, 0, 0);
        for (int run = 0; run < 3; run++) {
            flow.start(run, 0);
        }
        for (int r = 1; r <= 4; r++) {
            for (int run = 0; run < 3; run++) {
                flow.answer(run, 100 * run + 50 + (r & 3));
            }
        }
        for (int run = 0; run < 3; run++) {
            int first = 100 * run + 50;
            Check.dueRegisters("all set", flow, run, first, first + 1, first + 2, first + 3);
        }
    }

    private static void intsThatWrap() {
        Check.sentence("ints that wrap");
        int[] values = {Integer.MAX_VALUE, Integer.MAX_VALUE - 1, Integer.MIN_VALUE, Integer.MIN_VALUE + 1, 0, 1, -1, 2};
        for (int one : values) {
            for (int other : values) {
                ReplayFlow flow = Check.engine(
                        Check.SET, 1, other, Check.SET, 2, one, Check.ADD, 0, 1, Check.SUB, 2, 1, Check.END, 0, 0);
                flow.start(0, one);
                Check.dueRun(one + " and " + other, flow, 0, ReplayFlow.ENDED, 0, one + other, 0,
                        one + other, other, one - other, 0);
            }
        }
        ReplayFlow flow = Check.engine(Check.SET, 1, 1, Check.ADD, 0, 1, Check.JPOS, 0, 4, Check.CALL, 0, 5, Check.END, 0, 0);
        flow.start(0, Integer.MAX_VALUE);
        Check.dueRun("what has wrapped is not above 0", flow, 0, ReplayFlow.CALLING, 5, 0, 0, Integer.MIN_VALUE, 1, 0, 0);
        flow.start(1, Integer.MAX_VALUE - 1);
        Check.due("what has not wrapped", flow.result(1), Integer.MAX_VALUE);
    }
}
