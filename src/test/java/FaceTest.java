import java.lang.reflect.Constructor;
import java.lang.reflect.Field;
import java.lang.reflect.Method;
import java.lang.reflect.Modifier;
import java.util.ArrayList;
import java.util.Arrays;
import java.util.List;
import java.util.Set;
import java.util.TreeSet;

/** The class shows the face of the document and nothing else, and no private method bears a name of it. */
public final class FaceTest {
    private static final String OUTSIDE = " IndexOutOfBoundsException";
    private static final String ARGUMENT = " IllegalArgumentException";
    private static final Set<String> FACE = Set.of(
            "int begin(int)" + ARGUMENT,
            "int make(int,int)" + ARGUMENT + OUTSIDE + " IllegalStateException",
            "int set(int,int,int)" + OUTSIDE,
            "int root(int,int)" + OUTSIDE,
            "int things()",
            "int ofThing(int,int)" + OUTSIDE + ARGUMENT,
            "int named(int,int)" + OUTSIDE,
            "int collect(int)" + OUTSIDE,
            "int small()",
            "int steps(int)" + ARGUMENT,
            "int at(int,int)" + OUTSIDE,
            "int told(int,int)" + OUTSIDE + ARGUMENT,
            "int kept(int,int)" + OUTSIDE + ARGUMENT,
            "int more(int)" + ARGUMENT,
            "int wouldGo(int)" + OUTSIDE,
            "int wouldWork(int)" + OUTSIDE,
            "int wouldLose(int)" + OUTSIDE,
            "double meanLeft()",
            "long digest()");

    public static void main(String[] args) {
        List<String> faults = new ArrayList<>();
        Set<String> shown = new TreeSet<>();
        Set<String> names = new TreeSet<>();
        for (Method m : Tessera.class.getDeclaredMethods()) {
            if (Modifier.isPublic(m.getModifiers()) && !Modifier.isStatic(m.getModifiers())) {
                shown.add(told(m));
                names.add(m.getName());
            }
        }
        if (!shown.equals(new TreeSet<>(FACE))) {
            faults.add("the face is " + shown + ", due is " + new TreeSet<>(FACE));
        }
        if (!Modifier.isFinal(Tessera.class.getModifiers()) || !Modifier.isPublic(Tessera.class.getModifiers())) {
            faults.add("Tessera is not public and final");
        }
        for (Method m : Tessera.class.getDeclaredMethods()) {
            if (!shown.contains(told(m)) && (!Modifier.isPrivate(m.getModifiers()) || names.contains(m.getName()))) {
                faults.add("one more method: " + m);
            }
        }
        for (Field f : Tessera.class.getDeclaredFields()) {
            if (!Modifier.isPrivate(f.getModifiers())) {
                faults.add("a field that is not private: " + f);
            }
        }
        Constructor<?>[] constructors = Tessera.class.getDeclaredConstructors();
        if (constructors.length != 1 || constructors[0].getParameterCount() != 0
                || !Modifier.isPublic(constructors[0].getModifiers())) {
            faults.add("the constructors are " + Arrays.toString(constructors));
        }
        for (String fault : faults) {
            System.out.println(fault);
        }
        System.out.println(faults.isEmpty() ? "the face is as due" : faults.size() + " faults");
        if (!faults.isEmpty()) {
            System.exit(1);
        }
    }

    private static String told(Method m) {
        StringBuilder text = new StringBuilder(m.getReturnType().getSimpleName() + " " + m.getName() + "(");
        for (int i = 0; i < m.getParameterCount(); i++) {
            text.append(i == 0 ? "" : ",").append(m.getParameterTypes()[i].getSimpleName());
        }
        text.append(")");
        for (Class<?> e : m.getExceptionTypes()) {
            text.append(" ").append(e.getSimpleName());
        }
        return text.toString();
    }
}
