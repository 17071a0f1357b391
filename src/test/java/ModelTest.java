import java.util.ArrayList;
import java.util.List;
import java.util.Random;

/**
 * Many runs of calls, the same on every machine, on two engines: one gets each
 * call, the other gets forget calls in between as well. Both must answer what
 * a model says that keeps only what has happened to each run, and replays it
 * from the start for every answer.
 */
public final class ModelTest {
    private static final int OBJECTS = 6000;
    private static final int CALLS = 512;

    public static void main(String[] args) {
        for (int seed = 0; seed < OBJECTS; seed++) {
            new ModelTest(seed).carryOut();
        }
        Check.finish();
    }

    /** Something that happened to a run: 'a' an answer, 's' a signal, 't' the time that a pass came to. */
    private record Event(char kind, int channel, int value) {
    }

    private record Instruction(int op, int a, int b) {
    }

    /** What a run has come to, worked out from its events. */
    private static final class Replay {
        int state = ReplayFlow.NONE;
        final int[] r = new int[4];
        int at;
        int budget = 60;
        int waitsLeft = 40;
        int wake;
        int result;
        int time;
        int wakings;
        int got;
        final List<List<Integer>> channels = List.of(new ArrayList<>(), new ArrayList<>());
    }

    private final Random random;
    private final int seed;
    private final ReplayFlow plain = new ReplayFlow();
    private final ReplayFlow forgetful = new ReplayFlow();
    private int forgetfulCalls;

    private final List<Instruction> script = new ArrayList<>();
    private final List<List<Event>> history = new ArrayList<>();
    private final Integer[] arguments = new Integer[3];
    private final int[] startTimes = new int[3];
    private int time;

    private ModelTest(int seed) {
        this.seed = seed;
        this.random = new Random(seed);
        for (int run = 0; run < 3; run++) {
            history.add(new ArrayList<>());
        }
    }

    private void carryOut() {
        int instructions = random.nextInt(6) == 0 ? random.nextInt(19) : 3 + random.nextInt(8);
        for (int i = 0; i < instructions; i++) {
            emit();
        }
        int calls = instructions;
        while (calls < CALLS - 70 && forgetfulCalls < CALLS - 70) {
            calls += change();
            if (random.nextInt(3) == 0) {
                calls += compareAll();
            }
        }
        compareAll();
    }

    private int change() {
        int kind = random.nextInt(40);
        if (kind < 2) {
            start(run());
        } else if (kind < 18) {
            answer(run());
        } else if (kind < 28) {
            signal(run());
        } else if (kind < 38) {
            pass();
        } else if (kind == 38) {
            emit();
        } else if (random.nextInt(6) == 0) {
            clear();
            for (int i = 0; i < 5; i++) {
                emit();
            }
            return 6;
        }
        if (random.nextBoolean()) {
            int run = run();
            due("forget(" + run + ")", forgetful.forget(run), forgetful.forget(run), good(run) ? 0 : ReplayFlow.BAD_RUN);
            forgetfulCalls += 2;
        }
        return 1;
    }

    private int run() {
        return random.nextInt(25) == 0 ? random.nextInt(9) - 3 : random.nextInt(3);
    }

    private static boolean good(int run) {
        return run >= 0 && run <= 2;
    }

    private int smallInt() {
        return random.nextInt(30) == 0 ? random.nextInt() : random.nextInt(24) - 4;
    }

    private void emit() {
        int op = random.nextInt(30) == 0 ? random.nextInt(15) - 3 : weightedOp();
        int a = smallInt();
        int b = smallInt();
        int due;
        if (op < 0 || op > 8) {
            due = ReplayFlow.BAD_OP;
        } else if (script.size() == 16) {
            due = ReplayFlow.FULL;
        } else if (arguments[0] != null || arguments[1] != null || arguments[2] != null) {
            due = ReplayFlow.LOCKED;
        } else {
            due = script.size();
            script.add(new Instruction(op, a, b));
        }
        forgetfulCalls++;
        due("emit(" + op + ", " + a + ", " + b + ")", plain.emit(op, a, b), forgetful.emit(op, a, b), due);
    }

    private int weightedOp() {
        int[] ops = {0, 1, 2, 3, 3, 4, 4, 5, 5, 6, 7, 7, 8};
        return ops[random.nextInt(ops.length)];
    }

    private void start(int run) {
        int argument = smallInt();
        int due;
        if (!good(run)) {
            due = ReplayFlow.BAD_RUN;
        } else if (arguments[run] != null) {
            due = ReplayFlow.LOCKED;
        } else {
            arguments[run] = argument;
            startTimes[run] = time;
            due = replay(run).state;
        }
        forgetfulCalls++;
        due("start(" + run + ", " + argument + ")", plain.start(run, argument), forgetful.start(run, argument), due);
    }

    private void answer(int run) {
        int value = smallInt();
        int due;
        if (!good(run)) {
            due = ReplayFlow.BAD_RUN;
        } else if (replay(run).state != ReplayFlow.CALLING) {
            due = ReplayFlow.NOT_WAITING;
        } else {
            history.get(run).add(new Event('a', 0, value));
            due = replay(run).state;
        }
        forgetfulCalls++;
        due("answer(" + run + ", " + value + ")", plain.answer(run, value), forgetful.answer(run, value), due);
    }

    private void signal(int run) {
        int channel = smallInt();
        int value = smallInt();
        int due;
        if (!good(run)) {
            due = ReplayFlow.BAD_RUN;
        } else if (replay(run).state == ReplayFlow.NONE || replay(run).state == ReplayFlow.ENDED) {
            due = ReplayFlow.NOT_WAITING;
        } else if (replay(run).got == 24) {
            due = ReplayFlow.FULL;
        } else {
            history.get(run).add(new Event('s', channel & 1, value));
            due = replay(run).state;
        }
        forgetfulCalls++;
        due("signal(" + run + ", " + channel + ", " + value + ")",
                plain.signal(run, channel, value), forgetful.signal(run, channel, value), due);
    }

    private void pass() {
        int n = random.nextInt(20) == 0 ? random.nextInt(1400) - 200 : random.nextInt(12);
        int due = ReplayFlow.BAD_TIME;
        if (n >= 0 && n <= 1000) {
            time += n;
            due = 0;
            for (int run = 0; run < 3; run++) {
                int before = replay(run).wakings;
                history.get(run).add(new Event('t', 0, time));
                due += replay(run).wakings - before;
            }
        }
        forgetfulCalls++;
        due("pass(" + n + ")", plain.pass(n), forgetful.pass(n), due);
    }

    private void clear() {
        script.clear();
        for (int run = 0; run < 3; run++) {
            history.get(run).clear();
            arguments[run] = null;
        }
        time = 0;
        forgetfulCalls++;
        plain.clear();
        forgetful.clear();
    }

    private int compareAll() {
        for (int run = 0; run < 3; run++) {
            Replay now = replay(run);
            due("state(" + run + ")", plain.state(run), forgetful.state(run), now.state);
            for (int r = 0; r < 4; r++) {
                due("register(" + run + ", " + r + ")", plain.register(run, r), forgetful.register(run, r), now.r[r]);
            }
            int activity = now.state == ReplayFlow.CALLING ? script.get(now.at).b() : 0;
            due("activity(" + run + ")", plain.activity(run), forgetful.activity(run), activity);
            due("result(" + run + ")", plain.result(run), forgetful.result(run), now.result);
            int untaken = now.channels.get(0).size() + now.channels.get(1).size();
            due("untaken(" + run + ")", plain.untaken(run), forgetful.untaken(run), untaken);
        }
        due("time()", plain.time(), forgetful.time(), time);
        forgetfulCalls += 25;
        return 25;
    }

    private void due(String call, int got, int gotForgetful, int want) {
        Check.due("seed " + seed + ": " + call, got, want);
        Check.due("seed " + seed + ", forgetful: " + call, gotForgetful, want);
    }

    private Replay replay(int run) {
        Replay now = new Replay();
        if (arguments[run] == null) {
            return now;
        }
        now.r[0] = arguments[run];
        now.time = startTimes[run];
        goOn(now);
        for (Event event : history.get(run)) {
            happen(now, event);
        }
        return now;
    }

    private void happen(Replay now, Event event) {
        if (event.kind() == 't') {
            // Passes from ahead of the run's start are in its history too, and come to no later a time.
            now.time = Math.max(now.time, event.value());
            if (now.state == ReplayFlow.SLEEPING && now.time >= now.wake) {
                now.wakings++;
                waitIsOver(now);
                goOn(now);
            }
        } else if (event.kind() == 'a') {
            now.r[script.get(now.at).a() & 3] = event.value();
            waitIsOver(now);
            goOn(now);
        } else {
            now.got++;
            now.channels.get(event.channel()).add(event.value());
            if (now.state == ReplayFlow.TAKING) {
                // Comes to its TAKE once more: the wait was not over, so nothing else is different.
                goOn(now);
            }
        }
    }

    private static void waitIsOver(Replay now) {
        now.waitsLeft--;
        now.budget = 60;
        now.at++;
    }

    private void goOn(Replay now) {
        while (true) {
            if (now.budget == 0 || now.at < 0 || now.at >= script.size()) {
                now.state = ReplayFlow.ENDED;
                return;
            }
            Instruction next = script.get(now.at);
            int a = next.a() & 3;
            if (next.op() == 8) {
                now.state = ReplayFlow.ENDED;
                now.result = now.r[a];
                return;
            }
            if (next.op() >= 5) {
                if (now.waitsLeft == 0) {
                    now.state = ReplayFlow.ENDED;
                    return;
                }
                List<Integer> channel = now.channels.get(next.b() & 1);
                if (next.op() != 7 || channel.isEmpty()) {
                    now.wake = now.time + Math.min(100, Math.max(1, next.b()));
                    now.state = next.op() - 4;
                    return;
                }
                now.r[a] = channel.remove(0);
                waitIsOver(now);
                continue;
            }
            now.budget--;
            now.at++;
            switch (next.op()) {
                case 0 -> now.r[a] = next.b();
                case 1 -> now.r[a] += now.r[next.b() & 3];
                case 2 -> now.r[a] -= now.r[next.b() & 3];
                case 3 -> now.at = next.b();
                default -> now.at = now.r[a] > 0 ? next.b() : now.at;
            }
        }
    }
}
