import java.lang.reflect.Constructor;
import java.lang.reflect.Field;
import java.lang.reflect.Member;
import java.lang.reflect.Method;
import java.lang.reflect.Modifier;
import java.util.ArrayList;
import java.util.Arrays;
import java.util.List;
import java.util.Set;
import java.util.TreeSet;

/** The face of the class is the document's, and nothing else can be seen of it (rule 1 of LANGUAGE.md). */
public final class FaceTest {
    private static final String[] FACE = {
        "int clear()",
        "int setCell(int,int) IndexOutOfBounds IllegalArgument IllegalState",
        "int cell(int) IndexOutOfBounds",
        "int addLift(int,int) IndexOutOfBounds IllegalArgument IllegalState",
        "int addRobot(int,int) IndexOutOfBounds IllegalArgument IllegalState",
        "int robot(int,int) IndexOutOfBounds IllegalArgument",
        "int count(int) IllegalArgument",
        "int region(int) IndexOutOfBounds",
        "int ticksBetween(int,int) IndexOutOfBounds NoSuchElement",
        "int plan(int,int) IndexOutOfBounds IllegalState NoSuchElement UnsupportedOperation",
        "int arrival(int,int) IndexOutOfBounds IllegalState NoSuchElement",
        "int routeCost(int,int) IndexOutOfBounds IllegalState NoSuchElement",
        "int action(int,int) IndexOutOfBounds NoSuchElement",
        "int cellAfter(int,int) IndexOutOfBounds IllegalArgument",
        "int robotAt(int,int) IndexOutOfBounds IllegalArgument",
        "int cancel(int) IndexOutOfBounds IllegalState UnsupportedOperation",
        "int blockers(int,int) IndexOutOfBounds",
        "int makeWay(int,int) IndexOutOfBounds IllegalState NoSuchElement",
        "int planToCharger(int) IndexOutOfBounds IllegalState NoSuchElement",
        "int addTask(int,int,int,int) IndexOutOfBounds IllegalArgument IllegalState",
        "int serve(int,int) IndexOutOfBounds IllegalState",
        "int bestRobot(int) IndexOutOfBounds IllegalState NoSuchElement",
        "int task(int,int) IndexOutOfBounds IllegalArgument",
        "int assignAll()",
        "int tasksIn(int) IllegalArgument",
        "int advance(int) IllegalArgument IllegalState",
        "int statistic(int,int) IndexOutOfBounds IllegalArgument",
        "float activity(int) IndexOutOfBounds Arithmetic",
        "int activityBits(int) IndexOutOfBounds Arithmetic",
        "double averageDelay() Arithmetic",
        "int visits(int) IndexOutOfBounds",
        "int busiestCell()",
        "int sample(int,int,int) IndexOutOfBounds UnsupportedOperation",
        "int sampled(int,int,int) IndexOutOfBounds IllegalArgument NoSuchElement",
        "int append(char) IllegalArgument IllegalState",
        "int read() IllegalArgument IllegalState",
        "int errorPosition() NoSuchElement",
        "int save()",
        "int restore() IllegalState"};
    private static int wrong = 0;

    private static void demand(boolean isRight, String what) {
        if (!isRight) {
            wrong++;
            System.out.println(what);
        }
    }

    private static String shortName(Class<?> exception) {
        return exception.getSimpleName().replace("Exception", "");
    }

    private static String signature(Method m) {
        StringBuilder s = new StringBuilder(m.getReturnType().getName());
        s.append(' ').append(m.getName()).append('(');
        for (int k = 0; k < m.getParameterCount(); k++) {
            s.append(k == 0 ? "" : ",").append(m.getParameterTypes()[k].getName());
        }
        s.append(')');
        for (Class<?> e : m.getExceptionTypes()) {
            s.append(' ').append(shortName(e));
        }
        return s.toString();
    }

    private static boolean isPrivate(Member m) {
        return Modifier.isPrivate(m.getModifiers());
    }

    private static void face() {
        Class<?> c = AisleScheduler.class;
        demand(Modifier.isPublic(c.getModifiers()) && Modifier.isFinal(c.getModifiers()),
            "the class is not public final");
        demand(c.getSuperclass() == Object.class && c.getInterfaces().length == 0, "the class extends something");
        Constructor<?>[] made = c.getDeclaredConstructors();
        demand(made.length == 1 && Modifier.isPublic(made[0].getModifiers()) && made[0].getParameterCount() == 0,
                "the constructor is another one");
        Set<String> due = new TreeSet<>(Arrays.asList(FACE));
        Set<String> got = new TreeSet<>();
        for (Method m : c.getDeclaredMethods()) {
            if (!isPrivate(m)) {
                demand(m.getModifiers() == Modifier.PUBLIC, m + " is not simply public");
                got.add(signature(m));
            }
        }
        demand(due.equals(got), "the face is " + got + ", due is " + due);
        for (Field f : c.getDeclaredFields()) {
            demand(isPrivate(f), f + " is not private");
        }
    }

    /** The classes inside are no part of the face, and no private method bears a name of it. */
    private static void classesInside() {
        Set<String> names = new TreeSet<>();
        for (String line : FACE) {
            names.add(line.substring(line.indexOf(' ') + 1, line.indexOf('(')));
        }
        List<Class<?>> all = new ArrayList<>(Arrays.asList(AisleScheduler.class.getDeclaredClasses()));
        for (Class<?> inside : all) {
            demand(Modifier.isStatic(inside.getModifiers()) && !Modifier.isPublic(inside.getModifiers())
                    && !Modifier.isProtected(inside.getModifiers()), inside + " is not static or not hidden");
        }
        all.add(AisleScheduler.class);
        for (Class<?> c : all) {
            for (Method m : c.getDeclaredMethods()) {
                demand(!isPrivate(m) || !names.contains(m.getName()), m + " bears a name of the face");
            }
        }
    }

    public static void main(String[] args) {
        face();
        classesInside();
        System.out.println(wrong == 0 ? "the face is as due" : wrong + " faults");
        if (wrong != 0) {
            System.exit(1);
        }
    }
}
