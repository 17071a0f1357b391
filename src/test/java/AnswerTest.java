/** Promise 4: answer. */
public final class AnswerTest {
    public static void main(String[] args) {
        answersTheActivity();
        badRuns();
        notCalling();
        onlyOnce();
        goesOnAndAnswersItsState();
        Check.finish();
    }

    private static void answersTheActivity() {
        Check.sentence("Promise 4: Answers the activity that a run waits for.");
        for (int value : Check.EDGE_INTS) {
            for (int run = 0; run < 3; run++) {
                ReplayFlow flow = Check.engine(Check.CALL, 2, 11, Check.CALL, 3, 12, Check.END, 2, 0);
                for (int other = 0; other < 3; other++) {
                    flow.start(other, 1);
                }
                Check.due("answer", flow.answer(run, value), ReplayFlow.CALLING);
                Check.dueRun("answered", flow, run, ReplayFlow.CALLING, 12, 0, 0, 1, 0, value, 0);
                Check.dueRun("not answered", flow, (run + 1) % 3, ReplayFlow.CALLING, 11, 0, 0, 1, 0, 0, 0);
                Check.dueRun("not answered", flow, (run + 2) % 3, ReplayFlow.CALLING, 11, 0, 0, 1, 0, 0, 0);
            }
        }
    }

    private static void badRuns() {
        Check.sentence("Promise 4: BAD_RUN; .. nothing changes then");
        for (int run : Check.NO_RUNS) {
            Journey.changesNothing("answer(" + run + ")", 0, flow -> flow.answer(run, 1), ReplayFlow.BAD_RUN);
            Journey.changesNothing("answer(" + run + ")", 2, flow -> flow.answer(run, 1), ReplayFlow.BAD_RUN);
        }
    }

    private static void notCalling() {
        Check.sentence("Promise 4: its state is not CALLING: NOT_WAITING; nothing changes then");
        int[] states = {ReplayFlow.NONE, ReplayFlow.SLEEPING, ReplayFlow.TAKING, ReplayFlow.ENDED};
        for (int run = 0; run < 3; run++) {
            int same = run;
            for (int state : states) {
                Journey.changesNothing("answer", run, state, flow -> flow.answer(same, 99), ReplayFlow.NOT_WAITING);
            }
            int other = (run + 1) % 3;
            Journey.changesNothing("answer to another", run, flow -> flow.answer(other, 99), ReplayFlow.NOT_WAITING);
        }
    }

    private static void onlyOnce() {
        Check.sentence("Promise 4: its state is not CALLING: NOT_WAITING");
        ReplayFlow flow = Check.engine(Check.CALL, 1, 1, Check.TAKE, 2, 0, Check.CALL, 3, 2);
        flow.start(0, 0);
        Check.due("the first answer", flow.answer(0, 5), ReplayFlow.TAKING);
        Check.due("a second one", flow.answer(0, 6), ReplayFlow.NOT_WAITING);
        flow.signal(0, 0, 7);
        Check.dueRun("the second is not kept for the next call", flow, 0, ReplayFlow.CALLING, 2, 0, 0, 0, 5, 7, 0);
    }

    private static void goesOnAndAnswersItsState() {
        Check.sentence("Promise 4: Else it goes on; answers its state.");
        for (int op = Check.CALL; op <= Check.END; op++) {
            ReplayFlow flow = Check.engine(Check.CALL, 1, 7, Check.ADD, 2, 1, op, 2, 9);
            flow.start(0, 1);
            Check.due("answer, to " + op, flow.answer(0, 40), op - 4);
            Check.dueRun("has gone on", flow, 0, op - 4, op == Check.CALL ? 9 : 0, op == Check.END ? 40 : 0, 0, 1, 40, 40, 0);
        }
        ReplayFlow off = Check.engine(Check.CALL, 0, 7);
        off.start(0, 1);
        Check.due("answer, to no instruction", off.answer(0, 40), ReplayFlow.ENDED);
        Check.due("result", off.result(0), 0);
    }
}
