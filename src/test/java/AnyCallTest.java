import java.util.Random;

/**
 * Rules 7 and 11 of LANGUAGE.md: no call throws or fails to end, for any
 * arguments in any state, and the same calls give the same answers. Rule 7
 * binds past the 512th call too, though what is answered there is free.
 */
public final class AnyCallTest {
    private static final int OBJECTS = 400;
    private static final int CALLS = 3000;
    private static final int MOST_SECONDS = 300;
    private static final int EMIT = 0;
    private static final int CLEAR = 12;

    /** Enough passes of 1000 for the time to leave the ints at their upper end. */
    private static final int PASSES = Integer.MAX_VALUE / 1000 + 10;

    public static void main(String[] args) {
        endAfterTooLong();
        anyCalls();
        timeThatWraps();
        Check.finish();
    }

    /** Without this a call that fails to end would hold up .ci/run for ever. */
    private static void endAfterTooLong() {
        Thread watch = new Thread(() -> {
            try {
                Thread.sleep(1000L * MOST_SECONDS);
            } catch (InterruptedException ended) {
                return;
            }
            System.out.println("a call has not ended after " + MOST_SECONDS + " seconds");
            Runtime.getRuntime().halt(1);
        });
        watch.setDaemon(true);
        watch.start();
    }

    private static void anyCalls() {
        Check.sentence("No call may ever throw or fail to end, for any arguments in any state");
        for (int seed = 0; seed < OBJECTS; seed++) {
            Random random = new Random(seed);
            ReplayFlow flow = new ReplayFlow();
            ReplayFlow twin = new ReplayFlow();
            int toEmit = random.nextInt(17);
            for (int call = 0; call < CALLS; call++) {
                // Without a script whose ops are good, runs would end at once.
                boolean scripting = toEmit > 0;
                int kind = scripting ? EMIT : kind(random);
                toEmit = kind == CLEAR ? random.nextInt(17) : toEmit - 1;
                int[] given = {scripting ? random.nextInt(9) : argument(random), argument(random), argument(random)};
                String what = "seed " + seed + ", call " + call + " of kind " + kind;
                Check.due(what + " on a twin", answerOf(twin, kind, given, what), answerOf(flow, kind, given, what));
            }
        }
    }

    private static int kind(Random random) {
        return random.nextInt(200) == 0 ? CLEAR : random.nextInt(CLEAR);
    }

    private static int argument(Random random) {
        return switch (random.nextInt(5)) {
            case 0 -> random.nextInt();
            case 1 -> Check.EDGE_INTS[random.nextInt(Check.EDGE_INTS.length)];
            case 2 -> random.nextInt(20) - 4;
            default -> random.nextInt(3);
        };
    }

    private static long answerOf(ReplayFlow flow, int kind, int[] given, String what) {
        try {
            return answerOf(flow, kind, given);
        } catch (Throwable thrown) {
            Check.holds(what + " ends without " + thrown, false);
            return Long.MIN_VALUE;
        }
    }

    private static int answerOf(ReplayFlow flow, int kind, int[] given) {
        switch (kind) {
            case EMIT: return flow.emit(given[0], given[1], given[2]);
            case 1: return flow.start(given[0], given[1]);
            case 2: return flow.answer(given[0], given[1]);
            case 3: return flow.signal(given[0], given[1], given[2]);
            case 4: return flow.pass(given[0]);
            case 5: return flow.forget(given[0]);
            case 6: return flow.state(given[0]);
            case 7: return flow.register(given[0], given[1]);
            case 8: return flow.activity(given[0]);
            case 9: return flow.result(given[0]);
            case 10: return flow.untaken(given[0]);
            case 11: return flow.time();
            default:
                flow.clear();
                return 0;
        }
    }

    private static void timeThatWraps() {
        Check.sentence("what later calls answer is free");
        ReplayFlow flow = Check.engine(Check.CALL, 1, 5, Check.SLEEP, 0, 100, Check.JUMP, 0, 0);
        for (int run = 0; run < 3; run++) {
            flow.start(run, run);
        }
        String what = "a pass when the time is at the ints' upper end";
        for (int i = 0; i < PASSES; i++) {
            if (PASSES - i < 30) {
                answerOf(flow, 2, new int[] {i % 3, 0, 0}, what);
            }
            answerOf(flow, 4, new int[] {1000, 0, 0}, what);
        }
    }
}
