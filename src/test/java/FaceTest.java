import java.lang.reflect.Constructor;
import java.lang.reflect.Field;
import java.lang.reflect.Method;
import java.lang.reflect.Modifier;
import java.util.HashSet;
import java.util.Set;
import java.util.TreeSet;

/** The public face of the document, and what LANGUAGE.md asks of members (rules 1, 2, 5 and 10). */
public final class FaceTest {
    private static final Set<String> FACE = Set.of(
        "int admit(int,int,int,int)", "boolean remove(int)", "boolean setOffset(int,int)",
        "boolean setDemand(int,int)", "boolean start()", "int run(int)", "int getTask(int,int)",
        "int getTaskCount()", "boolean isStarted()", "int getTime()", "int getRunning()",
        "int getIdleTicks()", "int getPreemptions()", "int getLogCount()", "int getLogEntry(int)");

    private static final String[] CONSTANTS = {
        "ERR_STARTED=-1", "ERR_RANGE=-2", "ERR_FULL=-3", "ERR_UNSCHEDULABLE=-4",
        "F_PERIOD=0", "F_DEADLINE=1", "F_COST=2", "F_BLOCKING=3", "F_OFFSET=4", "F_DEMAND=5",
        "F_BOUND=6", "F_BLOCK_TERM=7", "F_RELEASED=8", "F_ENDED=9", "F_OVERRUNS=10",
        "F_MISSES=11", "F_WORST=12", "F_LAST=13", "F_REMAINING=14",
    };

    public static void main(String[] args) throws ReflectiveOperationException {
        Class<RateMonoKernel> type = RateMonoKernel.class;
        Check.due("the class is public", Modifier.isPublic(type.getModifiers()), true);
        Check.due("the class is final", Modifier.isFinal(type.getModifiers()), true);
        Check.due("nested classes", type.getDeclaredClasses().length, 0);
        methods(type);
        constructors(type);
        fields(type);
        Check.end();
    }

    private static void methods(Class<?> type) {
        Set<String> open = new TreeSet<>();
        Set<String> publicNames = new HashSet<>();
        for (Method m : type.getDeclaredMethods()) {
            if (!Modifier.isPrivate(m.getModifiers())) {
                Check.due(m + " is public and not static",
                    Modifier.isPublic(m.getModifiers()) && !Modifier.isStatic(m.getModifiers()), true);
                open.add(signature(m));
                publicNames.add(m.getName());
            }
            Check.due(m + " has at most seven parameters", m.getParameterCount() <= 7, true);
        }
        Check.dueText("the methods", open.toString(), new TreeSet<>(FACE).toString());
        for (Method m : type.getDeclaredMethods()) {
            if (Modifier.isPrivate(m.getModifiers())) {
                Check.due(m + " has a public one's name", publicNames.contains(m.getName()), false);
            }
        }
    }

    private static String signature(Method m) {
        StringBuilder text = new StringBuilder(m.getReturnType() + " " + m.getName() + "(");
        for (int i = 0; i < m.getParameterCount(); i++) {
            text.append(i == 0 ? "" : ",").append(m.getParameterTypes()[i]);
        }
        return text.append(')').toString();
    }

    private static void constructors(Class<?> type) throws ReflectiveOperationException {
        Check.due("constructors", type.getDeclaredConstructors().length, 1);
        Constructor<?> made = type.getDeclaredConstructor(int.class, int.class);
        Check.due("the constructor is public", Modifier.isPublic(made.getModifiers()), true);
    }

    private static void fields(Class<?> type) throws ReflectiveOperationException {
        Set<String> open = new TreeSet<>();
        int own = 0;
        for (Field f : type.getDeclaredFields()) {
            int how = f.getModifiers();
            Class<?> held = f.getType().isArray() ? f.getType().getComponentType() : f.getType();
            Check.due(f + " holds numbers alone", held.isPrimitive() && held != float.class && held != double.class, true);
            if (Modifier.isStatic(how)) {
                Check.due(f + " is a constant", Modifier.isFinal(how)
                    && (f.getType() == int.class || f.getType() == long.class), true);
            } else {
                own++;
            }
            if (!Modifier.isPrivate(how)) {
                Check.due(f + " is public and static", Modifier.isPublic(how) && Modifier.isStatic(how), true);
                open.add(f.getName() + "=" + f.getInt(null));
            }
        }
        Check.due("at most forty fields", own <= 40, true);
        Check.dueText("the constants", open.toString(), new TreeSet<>(Set.of(CONSTANTS)).toString());
    }
}
