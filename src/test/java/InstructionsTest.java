/** "Terms": what each instruction does with its a and b. */
public final class InstructionsTest {
    public static void main(String[] args) {
        registerNamedByTwoBits();
        registerThatJposLooksAt();
        jumpLooksAtNoRegister();
        sleepLooksAtNoRegister();
        set();
        addAndSub();
        jump();
        jpos();
        call();
        sleepLengths();
        sleepBeginning();
        takeChannels();
        takeFirst();
        takeOncePerRun();
        end();
        Check.finish();
    }

    /** Numbers whose two lowest bits are those of r. */
    private static int[] namesOf(int r) {
        return new int[] {r, r + 4, r - 4, r + 8, r - 8, r + 256, Integer.MAX_VALUE - 3 + r, Integer.MIN_VALUE + r};
    }

    /** A run with 10, 11, 12, 13 in its registers that has come to its fourth instruction. */
    private static ReplayFlow started(int op, int a, int b) {
        ReplayFlow flow = Check.engine(Check.SET, 1, 11, Check.SET, 2, 12, Check.SET, 3, 13, op, a, b);
        flow.start(0, 10);
        return flow;
    }

    private static void dueChanged(String what, ReplayFlow flow, int changed, int value) {
        for (int r = 0; r < 4; r++) {
            Check.due(what + ": register " + r, flow.register(0, r), r == changed ? value : 10 + r);
        }
    }

    private static void registerNamedByTwoBits() {
        Check.sentence("a register, named by its two lowest bits");
        for (int r = 0; r < 4; r++) {
            for (int a : namesOf(r)) {
                dueChanged("SET " + a, started(Check.SET, a, 77), r, 77);
                dueChanged("ADD " + a, started(Check.ADD, a, 2), r, 22 + r);
                dueChanged("SUB " + a, started(Check.SUB, a, 3), r, r - 3);
                ReplayFlow call = started(Check.CALL, a, 0);
                dueChanged("CALL " + a, call, r, 10 + r);
                call.answer(0, 78);
                dueChanged("CALL " + a + " answered", call, r, 78);
                ReplayFlow take = started(Check.TAKE, a, 0);
                dueChanged("TAKE " + a, take, r, 10 + r);
                take.signal(0, 0, 79);
                dueChanged("TAKE " + a + " signalled", take, r, 79);
                Check.due("END " + a, started(Check.END, a, 0).result(0), 10 + r);
            }
        }
    }

    private static void registerThatJposLooksAt() {
        Check.sentence("a register, named by its two lowest bits");
        for (int r = 0; r < 4; r++) {
            for (int a : namesOf(r)) {
                ReplayFlow only = Check.engine(Check.SET, r, 1, Check.JPOS, a, 3, Check.CALL, 0, 1, Check.SLEEP, 0, 1);
                Check.due("JPOS " + a + ", this one above 0", only.start(0, 0), ReplayFlow.SLEEPING);
                ReplayFlow others = Check.engine(
                        Check.SET, 1, 1, Check.SET, 2, 1, Check.SET, 3, 1, Check.SET, r, 0,
                        Check.JPOS, a, 6, Check.CALL, 0, 1, Check.SLEEP, 0, 1);
                Check.due("JPOS " + a + ", the others above 0", others.start(0, 1), ReplayFlow.CALLING);
            }
        }
    }

    private static void jumpLooksAtNoRegister() {
        Check.sentence("JUMP a b    goes to instruction b");
        for (int a : Check.EDGE_INTS) {
            ReplayFlow flow = started(Check.JUMP, a, 4);
            Check.due("JUMP " + a, flow.state(0), ReplayFlow.ENDED);
            dueChanged("JUMP " + a, flow, 0, 10);
        }
    }

    private static void sleepLooksAtNoRegister() {
        Check.sentence("SLEEP a b   waits until the time is at least what it was when the wait began, and b");
        for (int a : Check.EDGE_INTS) {
            ReplayFlow flow = started(Check.SLEEP, a, 3);
            Check.due("SLEEP " + a, flow.pass(2), 0);
            Check.due("SLEEP " + a, flow.pass(1), 1);
            dueChanged("SLEEP " + a, flow, 0, 10);
        }
    }

    private static void set() {
        Check.sentence("R[a] = b");
        for (int b : Check.EDGE_INTS) {
            dueChanged("SET to " + b, started(Check.SET, 2, b), 2, b);
        }
    }

    private static void addAndSub() {
        Check.sentence("R[a] = R[a] + R[b & 3]");
        for (int r = 0; r < 4; r++) {
            for (int b : namesOf(r)) {
                for (int a = 0; a < 4; a++) {
                    dueChanged("ADD " + a + " " + b, started(Check.ADD, a, b), a, 20 + a + r);
                }
            }
        }
        Check.sentence("R[a] = R[a] - R[b & 3]");
        for (int r = 0; r < 4; r++) {
            for (int b : namesOf(r)) {
                for (int a = 0; a < 4; a++) {
                    dueChanged("SUB " + a + " " + b, started(Check.SUB, a, b), a, a - r);
                }
            }
        }
    }

    private static void jump() {
        Check.sentence("JUMP a b    goes to instruction b");
        for (int to = 0; to < 16; to++) {
            if (to != 1) {
                dueJumped(Check.JUMP, to);
            }
        }
    }

    private static void jpos() {
        Check.sentence("goes to b if R[a] > 0");
        for (int to = 0; to < 16; to++) {
            if (to != 1) {
                dueJumped(Check.JPOS, to);
            }
        }
        int[] values = {1, 2, Integer.MAX_VALUE, 0, -1, -2, Integer.MIN_VALUE};
        for (int value : values) {
            ReplayFlow flow = Check.engine(Check.JPOS, 0, 2, Check.CALL, 0, 1, Check.SLEEP, 0, 1);
            Check.due("JPOS with " + value, flow.start(0, value), value > 0 ? ReplayFlow.SLEEPING : ReplayFlow.CALLING);
            Check.due("register 0", flow.register(0, 0), value);
        }
    }

    /** All but instruction 1 are calls, each of another activity; 1 goes from the first of them to that one. */
    private static void dueJumped(int op, int to) {
        ReplayFlow flow = new ReplayFlow();
        for (int i = 0; i < 16; i++) {
            flow.emit(i == 1 ? op : Check.CALL, 0, i == 1 ? to : 100 + i);
        }
        flow.start(0, 0);
        Check.due("answer", flow.answer(0, 1), ReplayFlow.CALLING);
        Check.due("op " + op + " to " + to, flow.activity(0), 100 + to);
    }

    private static void call() {
        Check.sentence("asks the outside for activity b (any int) with the argument R[a], and waits; when it is answered, R[a] becomes the answer");
        for (int b : Check.EDGE_INTS) {
            ReplayFlow flow = started(Check.CALL, 1, b);
            Check.due("state", flow.state(0), ReplayFlow.CALLING);
            Check.due("activity", flow.activity(0), b);
            dueChanged("while it waits", flow, 1, 11);
            flow.pass(1000);
            flow.signal(0, 0, 5);
            flow.signal(0, 1, 5);
            Check.due("neither time nor signals end the wait", flow.state(0), ReplayFlow.CALLING);
            flow.answer(0, b);
            dueChanged("answered", flow, 1, b);
        }
    }

    private static void sleepLengths() {
        Check.sentence("below 1 counts as 1, above 100 as 100");
        int[] given = {1, 2, 3, 50, 98, 99, 100, 101, 102, 1000, Integer.MAX_VALUE, 0, -1, -2, -100, Integer.MIN_VALUE};
        for (int b : given) {
            int lasts = Math.max(1, Math.min(100, b));
            ReplayFlow flow = started(Check.SLEEP, 0, b);
            Check.due("state", flow.state(0), ReplayFlow.SLEEPING);
            Check.due("SLEEP " + b + ", just ahead of its end", flow.pass(lasts - 1), 0);
            Check.due("state", flow.state(0), ReplayFlow.SLEEPING);
            Check.due("SLEEP " + b + ", at its end", flow.pass(1), 1);
            Check.due("state", flow.state(0), ReplayFlow.ENDED);
            dueChanged("registers", flow, 0, 10);
            Check.due("SLEEP " + b + ", behind its end", started(Check.SLEEP, 0, b).pass(lasts + 1), 1);
        }
    }

    private static void sleepBeginning() {
        Check.sentence("waits until the time is at least what it was when the wait began");
        ReplayFlow flow = Check.engine(Check.CALL, 1, 0, Check.SLEEP, 0, 5, Check.END, 0, 0);
        flow.pass(13);
        flow.start(0, 0);
        flow.pass(40);
        Check.due("answer at 53", flow.answer(0, 0), ReplayFlow.SLEEPING);
        Check.due("to 57", flow.pass(4), 0);
        Check.due("by 0", flow.pass(0), 0);
        Check.due("state", flow.state(0), ReplayFlow.SLEEPING);
        Check.due("to 58", flow.pass(1), 1);
        Check.due("state", flow.state(0), ReplayFlow.ENDED);
        ReplayFlow answered = Check.engine(Check.SLEEP, 0, 5, Check.END, 0, 0);
        answered.start(0, 0);
        answered.answer(0, 0);
        answered.signal(0, 0, 0);
        Check.due("neither an answer nor a signal ends it", answered.state(0), ReplayFlow.SLEEPING);
        Check.due("nor does it end sooner for them", answered.pass(4), 0);
    }

    private static void takeChannels() {
        Check.sentence("waits until a signal has come on channel b & 1 that this run has not taken yet");
        int[] zeroes = {0, 2, -2, 4, 65536, Integer.MIN_VALUE, Integer.MAX_VALUE - 1};
        int[] ones = {1, 3, -1, 5, 65537, Integer.MIN_VALUE + 1, Integer.MAX_VALUE};
        for (int i = 0; i < zeroes.length; i++) {
            ReplayFlow zero = started(Check.TAKE, 1, zeroes[i]);
            Check.due("TAKE " + zeroes[i] + ", signal on 1", zero.signal(0, 1, 71), ReplayFlow.TAKING);
            dueChanged("the other channel's", zero, 1, 11);
            Check.due("TAKE " + zeroes[i] + ", signal on 0", zero.signal(0, 0, 70), ReplayFlow.ENDED);
            dueChanged("its channel's", zero, 1, 70);
            ReplayFlow one = started(Check.TAKE, 1, ones[i]);
            Check.due("TAKE " + ones[i] + ", signal on 0", one.signal(0, 0, 70), ReplayFlow.TAKING);
            dueChanged("the other channel's", one, 1, 11);
            Check.due("TAKE " + ones[i] + ", signal on 1", one.signal(0, 1, 71), ReplayFlow.ENDED);
            dueChanged("its channel's", one, 1, 71);
        }
        ReplayFlow passed = started(Check.TAKE, 1, 0);
        passed.pass(1000);
        passed.answer(0, 5);
        Check.due("neither time nor an answer ends it", passed.state(0), ReplayFlow.TAKING);
    }

    private static void takeFirst() {
        Check.sentence("R[a] becomes the first such signal's value, which is taken");
        ReplayFlow flow = Check.engine(
                Check.CALL, 0, 0, Check.TAKE, 1, 0, Check.TAKE, 2, 1, Check.TAKE, 3, 0, Check.CALL, 0, 0,
                Check.TAKE, 1, 1, Check.CALL, 0, 0);
        flow.start(0, 0);
        int[] channels = {1, 0, 0, 1, 0};
        for (int i = 0; i < channels.length; i++) {
            Check.due("while calling", flow.signal(0, channels[i], 10 + i), ReplayFlow.CALLING);
        }
        flow.answer(0, 0);
        Check.dueRun("three taken", flow, 0, ReplayFlow.CALLING, 0, 0, 2, 0, 11, 10, 12);
        flow.answer(0, 0);
        Check.dueRun("four taken", flow, 0, ReplayFlow.CALLING, 0, 0, 1, 0, 13, 10, 12);
        for (int value : Check.EDGE_INTS) {
            ReplayFlow take = started(Check.TAKE, 2, 1);
            take.signal(0, 1, value);
            dueChanged("the value " + value, take, 2, value);
        }
    }

    private static void takeOncePerRun() {
        Check.sentence("a signal has come on channel b & 1 that this run has not taken yet");
        ReplayFlow flow = Check.engine(Check.TAKE, 1, 0, Check.TAKE, 2, 0, Check.END, 2, 0);
        for (int run = 0; run < 3; run++) {
            flow.start(run, 0);
        }
        Check.due("one signal is taken once", flow.signal(1, 0, 5), ReplayFlow.TAKING);
        Check.dueRun("run 1", flow, 1, ReplayFlow.TAKING, 0, 0, 0, 0, 5, 0, 0);
        Check.dueRun("run 0 has got none", flow, 0, ReplayFlow.TAKING, 0, 0, 0, 0, 0, 0, 0);
        Check.dueRun("run 2 has got none", flow, 2, ReplayFlow.TAKING, 0, 0, 0, 0, 0, 0, 0);
        Check.due("the second", flow.signal(1, 0, 6), ReplayFlow.ENDED);
        Check.due("result", flow.result(1), 6);
    }

    private static void end() {
        Check.sentence("the run ends; its result is R[a]");
        for (int b : Check.EDGE_INTS) {
            ReplayFlow flow = Check.engine(Check.SET, 2, b, Check.END, 2, b, Check.SET, 2, 1, Check.CALL, 0, 0);
            Check.due("start", flow.start(0, 2), ReplayFlow.ENDED);
            Check.dueRun("END with " + b, flow, 0, ReplayFlow.ENDED, 0, b, 0, 2, 0, b, 0);
        }
    }
}
