/** Promise 5: signal, and with it what a TAKE takes. */
public final class SignalTest {
    public static void main(String[] args) {
        wakesATake();
        otherChannelWaits();
        inTheOrderTheyCame();
        channelBits();
        noRuns();
        notWaiting();
        fullOnOneChannel();
        fullOnBothChannelsAndWhenTaken();
        notWaitingAheadOfFull();
        eachStateTakesSignals();
        Check.finish();
    }

    private static void wakesATake() {
        ReplayFlow flow = Check.engine(Check.TAKE, 5, 0, Check.TAKE, 2, 0, Check.END, 1, 0);
        flow.start(0, 1);
        Check.due("first", flow.signal(0, 0, -4), ReplayFlow.TAKING);
        Check.dueRun("first", flow, 0, ReplayFlow.TAKING, 0, 0, 0, 1, -4, 0, 0);
        Check.due("second", flow.signal(0, 0, Integer.MIN_VALUE), ReplayFlow.ENDED);
        Check.dueRun("second", flow, 0, ReplayFlow.ENDED, 0, -4, 0, 1, -4, Integer.MIN_VALUE, 0);
    }

    private static void otherChannelWaits() {
        ReplayFlow flow = Check.engine(Check.TAKE, 1, 1, Check.TAKE, 2, 0, Check.TAKE, 3, 0);
        flow.start(0, 0);
        Check.due("other channel", flow.signal(0, 0, 8), ReplayFlow.TAKING);
        Check.dueRun("other channel", flow, 0, ReplayFlow.TAKING, 0, 0, 1, 0, 0, 0, 0);
        Check.due("this channel", flow.signal(0, 1, 9), ReplayFlow.TAKING);
        Check.dueRun("both taken", flow, 0, ReplayFlow.TAKING, 0, 0, 0, 0, 9, 8, 0);
    }

    private static void inTheOrderTheyCame() {
        ReplayFlow flow = Check.engine(
                Check.CALL, 0, 0, Check.TAKE, 1, 0, Check.TAKE, 2, 1, Check.TAKE, 3, 0, Check.CALL, 0, 0,
                Check.TAKE, 1, 1, Check.CALL, 0, 0);
        flow.start(0, 0);
        int[] channels = {1, 0, 0, 1, 0};
        for (int i = 0; i < channels.length; i++) {
            Check.due("while calling", flow.signal(0, channels[i], 10 + i), ReplayFlow.CALLING);
            Check.due("untaken", flow.untaken(0), i + 1);
        }
        flow.answer(0, 0);
        Check.dueRun("three taken", flow, 0, ReplayFlow.CALLING, 0, 0, 2, 0, 11, 10, 12);
        flow.answer(0, 0);
        Check.dueRun("four taken", flow, 0, ReplayFlow.CALLING, 0, 0, 1, 0, 13, 10, 12);
    }

    private static void channelBits() {
        int[] zeroes = {0, 2, -2, 4, Integer.MIN_VALUE};
        int[] ones = {1, 3, -1, 5, Integer.MAX_VALUE};
        for (int i = 0; i < zeroes.length; i++) {
            ReplayFlow flow = Check.engine(Check.TAKE, 1, zeroes[i], Check.TAKE, 2, ones[i], Check.CALL, 0, 3);
            flow.start(0, 0);
            Check.due("channel " + ones[i], flow.signal(0, ones[i], 5), ReplayFlow.TAKING);
            Check.due("channel " + zeroes[i], flow.signal(0, zeroes[i], 6), ReplayFlow.CALLING);
            Check.dueRun("bits", flow, 0, ReplayFlow.CALLING, 3, 0, 0, 0, 6, 5, 0);
        }
    }

    private static void noRuns() {
        ReplayFlow flow = Check.engine(Check.TAKE, 0, 0);
        for (int run = 0; run < 3; run++) {
            flow.start(run, 4);
        }
        for (int run : Check.NO_RUNS) {
            Check.due("signal(" + run + ")", flow.signal(run, 0, 1), ReplayFlow.BAD_RUN);
        }
        for (int run = 0; run < 3; run++) {
            Check.dueRun("after bad signals", flow, run, ReplayFlow.TAKING, 0, 0, 0, 4, 0, 0, 0);
        }
    }

    private static void notWaiting() {
        ReplayFlow flow = Check.engine(Check.TAKE, 1, 0, Check.TAKE, 1, 1);
        Check.due("not started", flow.signal(0, 0, 5), ReplayFlow.NOT_WAITING);
        Check.dueNewRun("not started", flow, 0);
        Check.due("no signals at the start", flow.start(0, 0), ReplayFlow.TAKING);
        flow.signal(0, 0, 6);
        flow.signal(0, 0, 7);
        flow.signal(0, 1, 8);
        Check.due("ended", flow.signal(0, 0, 9), ReplayFlow.NOT_WAITING);
        Check.dueRun("ended", flow, 0, ReplayFlow.ENDED, 0, 0, 1, 0, 8, 0, 0);
    }

    private static void fullOnOneChannel() {
        for (int run = 0; run < 3; run++) {
            fullOnOneChannel(run, 0);
            fullOnOneChannel(run, 1);
        }
    }

    private static void fullOnOneChannel(int run, int channel) {
        ReplayFlow flow = Check.engine(Check.CALL, 0, 0, Check.TAKE, 1, channel, Check.JUMP, 0, 1);
        int other = (run + 1) % 3;
        flow.start(run, 0);
        flow.start(other, 0);
        for (int i = 0; i < 24; i++) {
            Check.due("signal " + i, flow.signal(run, channel, 100 + i), ReplayFlow.CALLING);
        }
        Check.due("the 25th", flow.signal(run, channel, 1), ReplayFlow.FULL);
        Check.due("the 25th on the other", flow.signal(run, 1 - channel, 1), ReplayFlow.FULL);
        Check.dueRun("full", flow, run, ReplayFlow.CALLING, 0, 0, 24, 0, 0, 0, 0);
        Check.due("another run has room", flow.signal(other, channel, 3), ReplayFlow.CALLING);
        Check.due("all taken", flow.answer(run, 0), ReplayFlow.TAKING);
        Check.dueRun("all taken", flow, run, ReplayFlow.TAKING, 0, 0, 0, 0, 123, 0, 0);
        Check.due("full though all are taken", flow.signal(run, channel, 1), ReplayFlow.FULL);
        Check.dueRun("still", flow, run, ReplayFlow.TAKING, 0, 0, 0, 0, 123, 0, 0);
    }

    private static void fullOnBothChannelsAndWhenTaken() {
        ReplayFlow flow = Check.engine(Check.TAKE, 1, 0, Check.JUMP, 0, 0);
        flow.start(2, 0);
        for (int i = 0; i < 24; i++) {
            Check.due("signal " + i, flow.signal(2, i, i), ReplayFlow.TAKING);
        }
        Check.dueRun("twelve taken", flow, 2, ReplayFlow.TAKING, 0, 0, 12, 0, 22, 0, 0);
        Check.due("the 25th", flow.signal(2, 0, 50), ReplayFlow.FULL);
        Check.due("the 25th on the other", flow.signal(2, 1, 50), ReplayFlow.FULL);
        Check.dueRun("nothing changed", flow, 2, ReplayFlow.TAKING, 0, 0, 12, 0, 22, 0, 0);
    }

    private static void notWaitingAheadOfFull() {
        ReplayFlow flow = Check.engine(Check.CALL, 0, 0);
        flow.start(0, 0);
        for (int i = 0; i < 24; i++) {
            flow.signal(0, 0, i);
        }
        flow.answer(0, 0);
        Check.due("ended and full", flow.signal(0, 0, 0), ReplayFlow.NOT_WAITING);
        Check.due("untaken", flow.untaken(0), 24);
    }

    private static void eachStateTakesSignals() {
        ReplayFlow flow = Check.engine(Check.SLEEP, 0, 3, Check.TAKE, 1, 0, Check.END, 1, 0);
        flow.start(0, 0);
        Check.due("while sleeping", flow.signal(0, 0, 31), ReplayFlow.SLEEPING);
        Check.dueRun("sleeping", flow, 0, ReplayFlow.SLEEPING, 0, 0, 1, 0, 0, 0, 0);
        Check.due("pass", flow.pass(3), 1);
        Check.dueRun("took it", flow, 0, ReplayFlow.ENDED, 0, 31, 0, 0, 31, 0, 0);
    }
}
