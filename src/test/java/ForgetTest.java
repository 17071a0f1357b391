/** Promise 7: forget. ModelTest has it in between all other calls, too. */
public final class ForgetTest {
    private static final String NOTHING = "Promise 7: Changes nothing that any call answers.";

    public static void main(String[] args) {
        badRuns();
        inEveryState();
        betweenAllCalls();
        scriptStays();
        waitsOverStayOver();
        signalsStay();
        Check.finish();
    }

    private static void badRuns() {
        Check.sentence("Promise 7: BAD_RUN.");
        for (int run : Check.NO_RUNS) {
            Journey.changesNothing("forget(" + run + ")", 0, flow -> flow.forget(run), ReplayFlow.BAD_RUN);
            Journey.changesNothing("forget(" + run + ")", 2, flow -> flow.forget(run), ReplayFlow.BAD_RUN);
        }
    }

    private static void inEveryState() {
        Check.sentence("Promise 7: Else answers 0.");
        for (int run = 0; run < 3; run++) {
            for (int forgotten = 0; forgotten < 3; forgotten++) {
                int one = forgotten;
                Journey.changesNothing("forget(" + one + ")", run, flow -> flow.forget(one), 0);
            }
        }
    }

    private static void betweenAllCalls() {
        Check.sentence("so that NOTHING OF THAT CAN BE SEEN");
        ReplayFlow flow = Journey.engineAt(1, ReplayFlow.NONE);
        for (int state = ReplayFlow.NONE; state < ReplayFlow.ENDED; state++) {
            for (int i = 0; i < 10; i++) {
                Check.due("forget", flow.forget(i % 3), 0);
            }
            Journey.bring(flow, 1, state, state + 1);
        }
        Check.due("forget", flow.forget(1), 0);
        Journey.dueAt("forgotten after its end", flow, 1, ReplayFlow.ENDED);
        Check.due("start", flow.start(1, 0), ReplayFlow.LOCKED);
        Check.due("emit", flow.emit(Check.END, 0, 0), ReplayFlow.LOCKED);
    }

    private static void scriptStays() {
        Check.sentence(NOTHING);
        ReplayFlow flow = Check.engine(Check.SET, 1, 4);
        for (int run = 0; run < 3; run++) {
            flow.forget(run);
        }
        Check.due("emit is not locked", flow.emit(Check.END, 1, 0), 1);
        Check.due("start is not locked", flow.start(0, 0), ReplayFlow.ENDED);
        Check.due("result", flow.result(0), 4);
    }

    private static void waitsOverStayOver() {
        Check.sentence(NOTHING);
        ReplayFlow flow = Check.engine(Check.CALL, 0, 1, Check.ADD, 1, 0, Check.JUMP, 0, 0);
        flow.start(0, 0);
        for (int i = 1; i < 40; i++) {
            flow.forget(0);
            Check.due("answer " + i, flow.answer(0, 1), ReplayFlow.CALLING);
            Check.due("added up", flow.register(0, 1), i);
        }
        flow.forget(0);
        Check.due("answer 40", flow.answer(0, 1), ReplayFlow.ENDED);
        Check.due("added up", flow.register(0, 1), 40);
    }

    private static void signalsStay() {
        Check.sentence(NOTHING);
        ReplayFlow flow = Check.engine(Check.TAKE, 1, 0, Check.ADD, 2, 1, Check.JUMP, 0, 0);
        flow.start(0, 0);
        for (int i = 0; i < 24; i++) {
            flow.forget(0);
            Check.due("signal " + i, flow.signal(0, i, i), ReplayFlow.TAKING);
        }
        flow.forget(0);
        Check.due("the 25th", flow.signal(0, 0, 0), ReplayFlow.FULL);
        Check.dueRun("half are taken, once each", flow, 0, ReplayFlow.TAKING, 0, 0, 12, 0, 22, 132, 0);
    }
}
