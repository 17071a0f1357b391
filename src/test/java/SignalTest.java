/** Promise 5: signal. */
public final class SignalTest {
    private static final String FULL = "Promise 5: the run has got 24 signals (on both channels together): FULL";

    public static void main(String[] args) {
        otherBitsOfChannel();
        badRuns();
        neitherNoneNorEnded();
        waitingInAnyWay();
        fullOnOneChannel();
        fullOnBothChannels();
        fullThoughTaken();
        fullOfEachRun();
        the24thIsTaken();
        nothingChangesWhenFull();
        orderOfRefusals();
        goesOnIfItWaitsForThis();
        Check.finish();
    }

    private static void otherBitsOfChannel() {
        Check.sentence("Promise 5: on channel 0 or 1 (other bits of channel are not looked at)");
        int[] zeroes = {0, 2, -2, 4, 65536, Integer.MIN_VALUE, Integer.MAX_VALUE - 1};
        int[] ones = {1, 3, -1, 5, 65537, Integer.MIN_VALUE + 1, Integer.MAX_VALUE};
        for (int i = 0; i < zeroes.length; i++) {
            ReplayFlow flow = Check.engine(Check.TAKE, 1, 0, Check.TAKE, 2, 1, Check.CALL, 0, 3);
            flow.start(0, 0);
            Check.due("channel " + ones[i], flow.signal(0, ones[i], 5), ReplayFlow.TAKING);
            Check.dueRun("on channel 1", flow, 0, ReplayFlow.TAKING, 0, 0, 1, 0, 0, 0, 0);
            Check.due("channel " + zeroes[i], flow.signal(0, zeroes[i], 6), ReplayFlow.CALLING);
            Check.dueRun("both are taken", flow, 0, ReplayFlow.CALLING, 3, 0, 0, 0, 6, 5, 0);
        }
    }

    private static void badRuns() {
        Check.sentence("Promise 5: BAD_RUN; .. nothing changes then");
        for (int run : Check.NO_RUNS) {
            Journey.changesNothing("signal(" + run + ")", 0, flow -> flow.signal(run, 1, 1), ReplayFlow.BAD_RUN);
            Journey.changesNothing("signal(" + run + ")", 2, flow -> flow.signal(run, 1, 1), ReplayFlow.BAD_RUN);
        }
    }

    private static void neitherNoneNorEnded() {
        Check.sentence("Promise 5: its state is NONE or ENDED: NOT_WAITING; .. nothing changes then");
        for (int run = 0; run < 3; run++) {
            int same = run;
            int other = (run + 1) % 3;
            for (int channel = 0; channel < 2; channel++) {
                int on = channel;
                Journey.changesNothing("signal", run, ReplayFlow.NONE, flow -> flow.signal(same, on, 9), ReplayFlow.NOT_WAITING);
                Journey.changesNothing("signal", run, ReplayFlow.ENDED, flow -> flow.signal(same, on, 9), ReplayFlow.NOT_WAITING);
                Journey.changesNothing("signal to another", run, flow -> flow.signal(other, on, 9), ReplayFlow.NOT_WAITING);
            }
        }
    }

    private static void waitingInAnyWay() {
        Check.sentence("Promise 5: Brings a signal to a run");
        for (int run = 0; run < 3; run++) {
            for (int state = ReplayFlow.CALLING; state <= ReplayFlow.TAKING; state++) {
                ReplayFlow flow = Journey.engineAt(run, state);
                Check.due("signal in state " + state, flow.signal(run, 0, 9), state);
                Check.due("untaken", flow.untaken(run), 2);
            }
        }
        ReplayFlow flow = Check.engine(Check.SLEEP, 0, 3, Check.TAKE, 1, 0, Check.END, 1, 0);
        flow.start(0, 0);
        Check.due("while sleeping", flow.signal(0, 0, 31), ReplayFlow.SLEEPING);
        Check.due("the sleep goes on", flow.pass(2), 0);
        Check.due("until its end", flow.pass(1), 1);
        Check.dueRun("took it later", flow, 0, ReplayFlow.ENDED, 0, 31, 0, 0, 31, 0, 0);
    }

    private static void fullOnOneChannel() {
        Check.sentence(FULL);
        for (int run = 0; run < 3; run++) {
            for (int channel = 0; channel < 2; channel++) {
                ReplayFlow flow = Check.engine(Check.CALL, 0, 0, Check.TAKE, 1, channel, Check.ADD, 2, 1, Check.JUMP, 0, 1);
                flow.start(run, 0);
                for (int i = 0; i < 24; i++) {
                    Check.due("signal " + (i + 1), flow.signal(run, channel, 100 + i), ReplayFlow.CALLING);
                }
                Check.due("signal 25", flow.signal(run, channel, 1), ReplayFlow.FULL);
                Check.due("signal 25 on the other", flow.signal(run, 1 - channel, 1), ReplayFlow.FULL);
                Check.due("untaken", flow.untaken(run), 24);
                Check.due("all are there", flow.answer(run, 0), ReplayFlow.TAKING);
                Check.dueRun("all taken", flow, run, ReplayFlow.TAKING, 0, 0, 0, 0, 123, 24 * 100 + 23 * 12, 0);
            }
        }
    }

    private static void fullOnBothChannels() {
        Check.sentence(FULL);
        for (int ones = 0; ones <= 24; ones++) {
            ReplayFlow flow = Check.engine(Check.CALL, 0, 0);
            flow.start(0, 0);
            for (int i = 0; i < 24; i++) {
                Check.due("signal " + (i + 1), flow.signal(0, i < ones ? 1 : 0, i), ReplayFlow.CALLING);
            }
            Check.due("25th, " + ones + " on channel 1", flow.signal(0, 0, 1), ReplayFlow.FULL);
            Check.due("25th, " + ones + " on channel 1", flow.signal(0, 1, 1), ReplayFlow.FULL);
            Check.due("untaken", flow.untaken(0), 24);
        }
    }

    /** The document says "has got", so what the run has taken counts as well. */
    private static void fullThoughTaken() {
        Check.sentence(FULL);
        for (int channel = 0; channel < 2; channel++) {
            ReplayFlow flow = Check.engine(Check.TAKE, 1, channel, Check.JUMP, 0, 0);
            flow.start(2, 0);
            for (int i = 0; i < 24; i++) {
                Check.due("signal " + (i + 1), flow.signal(2, channel, i), ReplayFlow.TAKING);
                Check.due("untaken", flow.untaken(2), 0);
            }
            Check.due("signal 25, which it waits for", flow.signal(2, channel, 50), ReplayFlow.FULL);
            Check.due("signal 25 on the other", flow.signal(2, 1 - channel, 50), ReplayFlow.FULL);
            Check.dueRun("nothing changed", flow, 2, ReplayFlow.TAKING, 0, 0, 0, 0, 23, 0, 0);
        }
        ReplayFlow half = Check.engine(Check.TAKE, 1, 0, Check.JUMP, 0, 0);
        half.start(0, 0);
        for (int i = 0; i < 24; i++) {
            Check.due("signal " + (i + 1), half.signal(0, i, i), ReplayFlow.TAKING);
        }
        Check.due("signal 25", half.signal(0, 0, 50), ReplayFlow.FULL);
        Check.dueRun("twelve taken", half, 0, ReplayFlow.TAKING, 0, 0, 12, 0, 22, 0, 0);
    }

    private static void fullOfEachRun() {
        Check.sentence(FULL);
        ReplayFlow flow = Check.engine(Check.CALL, 0, 0);
        for (int run = 0; run < 3; run++) {
            flow.start(run, 0);
        }
        for (int run = 2; run >= 0; run--) {
            for (int i = 0; i < 24; i++) {
                Check.due("signal " + (i + 1) + " of run " + run, flow.signal(run, i, i), ReplayFlow.CALLING);
            }
            Check.due("signal 25 of run " + run, flow.signal(run, 0, 0), ReplayFlow.FULL);
        }
    }

    private static void the24thIsTaken() {
        Check.sentence(FULL);
        ReplayFlow flow = Check.engine(Check.TAKE, 1, 1, Check.END, 1, 0);
        flow.start(0, 0);
        for (int i = 0; i < 23; i++) {
            Check.due("signal " + (i + 1), flow.signal(0, 0, i), ReplayFlow.TAKING);
        }
        Check.due("signal 24, which it waits for", flow.signal(0, 1, 88), ReplayFlow.ENDED);
        Check.dueRun("ended", flow, 0, ReplayFlow.ENDED, 0, 88, 23, 0, 88, 0, 0);
    }

    private static void nothingChangesWhenFull() {
        Check.sentence("Promise 5: FULL; .. nothing changes then");
        ReplayFlow flow = Check.engine(
                Check.CALL, 0, 0, Check.TAKE, 1, 0, Check.ADD, 2, 1, Check.ADD, 3, 0, Check.JUMP, 0, 1);
        flow.start(0, 0);
        for (int i = 0; i < 24; i++) {
            flow.signal(0, 0, 1);
        }
        for (int i = 0; i < 5; i++) {
            Check.due("refused", flow.signal(0, i, 1000), ReplayFlow.FULL);
        }
        Check.dueRun("still calling", flow, 0, ReplayFlow.CALLING, 0, 0, 24, 0, 0, 0, 0);
        Check.due("takes the 24 alone", flow.answer(0, 1), ReplayFlow.TAKING);
        Check.dueRun("24 taken", flow, 0, ReplayFlow.TAKING, 0, 0, 0, 1, 1, 24, 24);
    }

    private static void orderOfRefusals() {
        Check.sentence("Promise 5: BAD_RUN; .. NOT_WAITING; .. FULL");
        ReplayFlow flow = Check.engine(Check.CALL, 0, 0);
        flow.start(0, 0);
        for (int i = 0; i < 24; i++) {
            flow.signal(0, 0, i);
        }
        flow.answer(0, 0);
        Check.due("ended and full", flow.signal(0, 0, 0), ReplayFlow.NOT_WAITING);
        Check.due("untaken", flow.untaken(0), 24);
    }

    private static void goesOnIfItWaitsForThis() {
        Check.sentence("Promise 5: Else it goes on if it waits for this; answers its state.");
        for (int op = Check.CALL; op <= Check.END; op++) {
            ReplayFlow flow = Check.engine(Check.TAKE, 1, 1, Check.ADD, 2, 1, op, 2, 0);
            flow.start(0, 1);
            Check.due("the other channel's", flow.signal(0, 0, 30), ReplayFlow.TAKING);
            Check.dueRun("waits still", flow, 0, ReplayFlow.TAKING, 0, 0, 1, 1, 0, 0, 0);
            // A TAKE there finds the signal that has come on channel 0, and the run falls off the end.
            boolean takes = op == Check.TAKE;
            int state = takes ? ReplayFlow.ENDED : op - 4;
            Check.due("signal, to " + op, flow.signal(0, 1, 40), state);
            Check.dueRun("has gone on", flow, 0, state, 0, op == Check.END ? 40 : 0, takes ? 0 : 1, 1, 40, takes ? 30 : 40, 0);
        }
        ReplayFlow two = Check.engine(Check.TAKE, 5, 0, Check.TAKE, 2, 0, Check.END, 1, 0);
        two.start(0, 1);
        Check.due("to a TAKE that waits", two.signal(0, 0, -4), ReplayFlow.TAKING);
        Check.dueRun("first", two, 0, ReplayFlow.TAKING, 0, 0, 0, 1, -4, 0, 0);
        Check.due("to the end", two.signal(0, 0, Integer.MIN_VALUE), ReplayFlow.ENDED);
        Check.dueRun("second", two, 0, ReplayFlow.ENDED, 0, -4, 0, 1, -4, Integer.MIN_VALUE, 0);
    }
}
