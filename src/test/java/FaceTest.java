import java.lang.reflect.Constructor;
import java.lang.reflect.Field;
import java.lang.reflect.Method;
import java.lang.reflect.Modifier;
import java.util.Arrays;
import java.util.Set;
import java.util.TreeSet;

/** The public face: every member of the document, and no other that isn't private. */
public final class FaceTest {
    public static void main(String[] args) {
        constants();
        members();
        Check.finish();
    }

    private static void constants() {
        Check.due("BAD_OP", ReplayFlow.BAD_OP, -1);
        Check.due("FULL", ReplayFlow.FULL, -2);
        Check.due("BAD_RUN", ReplayFlow.BAD_RUN, -3);
        Check.due("NOT_WAITING", ReplayFlow.NOT_WAITING, -4);
        Check.due("LOCKED", ReplayFlow.LOCKED, -5);
        Check.due("BAD_TIME", ReplayFlow.BAD_TIME, -6);
        Check.due("NONE", ReplayFlow.NONE, 0);
        Check.due("CALLING", ReplayFlow.CALLING, 1);
        Check.due("SLEEPING", ReplayFlow.SLEEPING, 2);
        Check.due("TAKING", ReplayFlow.TAKING, 3);
        Check.due("ENDED", ReplayFlow.ENDED, 4);
    }

    private static void members() {
        Set<String> wanted = new TreeSet<>();
        for (String name : new String[] {"BAD_OP", "FULL", "BAD_RUN", "NOT_WAITING", "LOCKED", "BAD_TIME",
                "NONE", "CALLING", "SLEEPING", "TAKING", "ENDED"}) {
            wanted.add("public static final int " + name);
        }
        wanted.add("public ReplayFlow()");
        wanted.add("public int emit(int, int, int)");
        wanted.add("public int start(int, int)");
        wanted.add("public int answer(int, int)");
        wanted.add("public int signal(int, int, int)");
        wanted.add("public int pass(int)");
        wanted.add("public int forget(int)");
        wanted.add("public void clear()");
        wanted.add("public int state(int)");
        wanted.add("public int register(int, int)");
        wanted.add("public int activity(int)");
        wanted.add("public int result(int)");
        wanted.add("public int untaken(int)");
        wanted.add("public int time()");
        Set<String> found = visibleMembers();
        Check.holds("the face is " + wanted + ", found " + found, wanted.equals(found));
        Check.holds("the class is public and final", ReplayFlow.class.getModifiers() == (Modifier.PUBLIC | Modifier.FINAL));
        Check.due("nested classes", ReplayFlow.class.getDeclaredClasses().length, 0);
    }

    private static Set<String> visibleMembers() {
        Set<String> found = new TreeSet<>();
        for (Field field : ReplayFlow.class.getDeclaredFields()) {
            if (!Modifier.isPrivate(field.getModifiers())) {
                found.add(Modifier.toString(field.getModifiers()) + " " + field.getType() + " " + field.getName());
            }
        }
        for (Constructor<?> made : ReplayFlow.class.getDeclaredConstructors()) {
            found.add(Modifier.toString(made.getModifiers()) + " ReplayFlow(" + listed(made.getParameterTypes()) + ")");
        }
        for (Method method : ReplayFlow.class.getDeclaredMethods()) {
            if (!Modifier.isPrivate(method.getModifiers())) {
                found.add(Modifier.toString(method.getModifiers()) + " " + method.getReturnType() + " "
                        + method.getName() + "(" + listed(method.getParameterTypes()) + ")");
            }
        }
        return found;
    }

    private static String listed(Class<?>[] types) {
        String inBrackets = Arrays.toString(types);
        return inBrackets.substring(1, inBrackets.length() - 1);
    }
}
