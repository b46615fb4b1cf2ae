import java.lang.reflect.Constructor;
import java.lang.reflect.Field;
import java.lang.reflect.Method;
import java.lang.reflect.Modifier;
import java.util.Arrays;
import java.util.Set;
import java.util.TreeSet;

/** The compiled class shows the document's face and nothing else; Language looks at its text. */
public final class Face {
    private static int wrong = 0;

    private static final String[] METHODS = {
        "boolean plug(int, int, int, int)", "boolean host(int, int)", "boolean meet(int, int)", "boolean cut(int)",
        "boolean mend(int)", "boolean join(int, int)", "boolean leave(int, int)", "int send(int, int)",
        "boolean lose(int, int)", "int tick(int)", "int got(int, int)", "int frame(int, int, int)",
        "int way(int, boolean, int, int)", "int port(int, int, int)", "int members(int, int, int)",
        "int branch(int, int, int, int, int)", "int tree(int, int, int, int)", "int count(int)",
    };

    public static void main(String[] args) {
        members();
        System.out.println(wrong == 0 ? "the face is as due" : wrong + " faults");
        if (wrong != 0) {
            System.exit(1);
        }
    }

    private static void fault(boolean isFault, String name) {
        if (isFault) {
            wrong++;
            System.out.println(name);
        }
    }

    private static void members() {
        Set<String> want = new TreeSet<>(Arrays.asList(METHODS));
        Set<String> names = new TreeSet<>();
        Set<String> shown = new TreeSet<>();
        for (Method method : GroveWorks.class.getDeclaredMethods()) {
            String types = Arrays.toString(Arrays.stream(method.getParameterTypes()).map(Class::getName).toArray());
            String line = method.getReturnType() + " " + method.getName() + "(" + types.substring(1, types.length() - 1) + ")";
            if (Modifier.isPublic(method.getModifiers())) {
                shown.add(line);
                names.add(method.getName());
                fault(Modifier.isStatic(method.getModifiers()), "static: " + line);
            } else {
                fault(!Modifier.isPrivate(method.getModifiers()), "neither public nor private: " + line);
            }
        }
        fault(!shown.equals(want), "public methods are " + shown);
        for (Method method : GroveWorks.class.getDeclaredMethods()) {
            boolean isPrivate = Modifier.isPrivate(method.getModifiers());
            fault(isPrivate && names.contains(method.getName()), "a private method of a public name: " + method);
            fault(method.getParameterCount() > 7, "more than seven parameters: " + method);
        }
        for (Field field : GroveWorks.class.getDeclaredFields()) {
            boolean isNone = field.getName().equals("NONE") && Modifier.isPublic(field.getModifiers());
            fault(!isNone && !Modifier.isPrivate(field.getModifiers()), "field that is not private: " + field);
            boolean isLoose = Modifier.isStatic(field.getModifiers()) && !Modifier.isFinal(field.getModifiers());
            fault(isLoose, "static and not final: " + field);
        }
        Constructor<?>[] constructors = GroveWorks.class.getDeclaredConstructors();
        fault(constructors.length != 1 || constructors[0].getParameterCount() != 1, "constructors");
        fault(!Modifier.isFinal(GroveWorks.class.getModifiers()), "not final");
        Class<?>[] inside = GroveWorks.class.getDeclaredClasses();
        fault(inside.length > 12, "more than twelve classes");
        for (Class<?> one : inside) {
            fault(!Modifier.isStatic(one.getModifiers()), "not static: " + one);
            fault(one.getDeclaredFields().length > 20, "more than twenty fields: " + one);
        }
    }
}
