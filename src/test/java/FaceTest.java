import java.lang.reflect.Constructor;
import java.lang.reflect.Field;
import java.lang.reflect.Member;
import java.lang.reflect.Method;
import java.lang.reflect.Modifier;
import java.util.Set;
import java.util.TreeSet;

/** The public face is the document's and no more (LANGUAGE.md, rule 1). */
public final class FaceTest {
    private static final String FACE = """
            int append(int,int,int,int,int)
            int truncate(int)
            int load()
            int errorCode()
            int errorPosition()
            int report(int)
            int device(int,int)
            int block(int,int)
            int find(int,int)
            int oldest()
            int total(int)
            boolean write(int,int,int)
            boolean wouldCache(int,int,int)
            int clean(int)
            boolean setFailed(int,boolean)
            int setMode(int,int)
            boolean setPower(boolean)
            int advance(int)
            int flush()
            int flushDevice(int)
            int need()
            int energyOf(int)
            int valueOf(int)
            int bestSet(int)
            int bestValue(int)
            int greedySet(int)
            double quality(int)
            int energyFor(int)
            int extra(int)
            int minutesLeft()
            int valueAfter(int)
            int minutesToSafety()
            int gainOfRepair(int)
            int costliest()
            void save(int)
            void restore(int)
            """;

    private FaceTest() {
    }

    public static void main(String[] args) {
        Checks.due("NONE", FlushPlanner.NONE, -1);
        Checks.due("final", Modifier.isFinal(FlushPlanner.class.getModifiers()), true);
        Set<String> names = new TreeSet<>();
        Set<String> open = new TreeSet<>();
        for (Method method : FlushPlanner.class.getDeclaredMethods()) {
            if (isOpen(method)) {
                open.add(signature(method));
                names.add(method.getName());
            }
        }
        Checks.due("the methods", open, new TreeSet<>(Set.of(FACE.split("\n"))));
        checkHidden(FlushPlanner.class, names);
        for (Class<?> inner : FlushPlanner.class.getDeclaredClasses()) {
            Checks.due(inner + " is static", Modifier.isStatic(inner.getModifiers()), true);
            checkHidden(inner, names);
        }
        for (Field field : FlushPlanner.class.getDeclaredFields()) {
            Checks.due(field + " is open", isOpen(field), field.getName().equals("NONE"));
        }
        Constructor<?>[] constructors = FlushPlanner.class.getDeclaredConstructors();
        Checks.due("constructors", constructors.length, 1);
        Checks.due("arguments of the constructor", constructors[0].getParameterCount(), 0);
        Checks.finish("FaceTest");
    }

    private static void checkHidden(Class<?> type, Set<String> names) {
        for (Method method : type.getDeclaredMethods()) {
            if (type != FlushPlanner.class || !isOpen(method)) {
                Checks.due(method + " has a name of the face", names.contains(method.getName()), false);
            }
        }
        for (Field field : type.getDeclaredFields()) {
            if (Modifier.isStatic(field.getModifiers())) {
                Checks.due(field + " is final", Modifier.isFinal(field.getModifiers()), true);
            }
        }
    }

    private static boolean isOpen(Member member) {
        return !Modifier.isPrivate(member.getModifiers());
    }

    private static String signature(Method method) {
        StringBuilder text = new StringBuilder();
        for (Class<?> type : method.getParameterTypes()) {
            text.append(text.length() == 0 ? "" : ",").append(type);
        }
        return method.getReturnType() + " " + method.getName() + "(" + text + ")";
    }
}
