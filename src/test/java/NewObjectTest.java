/** Promise 1: no instructions, no runs, time 0. */
public final class NewObjectTest {
    public static void main(String[] args) {
        ReplayFlow flow = new ReplayFlow();
        for (int run = 0; run < 3; run++) {
            Check.dueNewRun("new", flow, run);
        }
        Check.due("time()", flow.time(), 0);
        Check.due("first emit", flow.emit(Check.END, 0, 0), 0);
        objectsAreApart();
        Check.finish();
    }

    private static void objectsAreApart() {
        ReplayFlow one = Check.engine(Check.TAKE, 1, 0);
        one.start(0, 5);
        one.signal(0, 1, 3);
        one.pass(7);
        ReplayFlow other = new ReplayFlow();
        Check.dueNewRun("beside another", other, 0);
        Check.due("time() beside another", other.time(), 0);
        Check.due("emit beside another", other.emit(Check.END, 0, 0), 0);
        Check.dueRun("the first", one, 0, ReplayFlow.TAKING, 0, 0, 1, 5, 0, 0, 0);
        Check.due("time() of the first", one.time(), 7);
    }
}
